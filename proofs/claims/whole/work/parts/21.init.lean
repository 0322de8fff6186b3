theorem dX1_init_0 : decode cX1_init 0 = .ok (.aload_n 0, 1) := by decide +kernel
theorem dX1_init_1 : decode cX1_init 1 = .ok (.invokespecial 3, 3) := by decide +kernel
theorem dX1_init_4 : decode cX1_init 4 = .ok (.aload_n 0, 1) := by decide +kernel
theorem dX1_init_5 : decode cX1_init 5 = .ok (.sipush 256, 3) := by decide +kernel
theorem dX1_init_8 : decode cX1_init 8 = .ok (.newarray .int, 2) := by decide +kernel
theorem dX1_init_10 : decode cX1_init 10 = .ok (.putfield 9, 3) := by decide +kernel
theorem dX1_init_13 : decode cX1_init 13 = .ok (.return_, 1) := by decide +kernel
theorem dX2_init_0 : decode cX2_init 0 = .ok (.aload_n 0, 1) := by decide +kernel
theorem dX2_init_1 : decode cX2_init 1 = .ok (.invokespecial 3, 3) := by decide +kernel
theorem dX2_init_4 : decode cX2_init 4 = .ok (.aload_n 0, 1) := by decide +kernel
theorem dX2_init_5 : decode cX2_init 5 = .ok (.bipush 100, 2) := by decide +kernel
theorem dX2_init_7 : decode cX2_init 7 = .ok (.putfield 9, 3) := by decide +kernel
theorem dX2_init_10 : decode cX2_init 10 = .ok (.aload_n 0, 1) := by decide +kernel
theorem dX2_init_11 : decode cX2_init 11 = .ok (.bipush 100, 2) := by decide +kernel
theorem dX2_init_13 : decode cX2_init 13 = .ok (.putfield 15, 3) := by decide +kernel
theorem dX2_init_16 : decode cX2_init 16 = .ok (.aload_n 0, 1) := by decide +kernel
theorem dX2_init_17 : decode cX2_init 17 = .ok (.bipush 8, 2) := by decide +kernel
theorem dX2_init_19 : decode cX2_init 19 = .ok (.newarray .boolean, 2) := by decide +kernel
theorem dX2_init_21 : decode cX2_init 21 = .ok (.putfield 18, 3) := by decide +kernel
theorem dX2_init_24 : decode cX2_init 24 = .ok (.aload_n 0, 1) := by decide +kernel
theorem dX2_init_25 : decode cX2_init 25 = .ok (.bipush 8, 2) := by decide +kernel
theorem dX2_init_27 : decode cX2_init 27 = .ok (.newarray .int, 2) := by decide +kernel
theorem dX2_init_29 : decode cX2_init 29 = .ok (.putfield 22, 3) := by decide +kernel
theorem dX2_init_32 : decode cX2_init 32 = .ok (.aload_n 0, 1) := by decide +kernel
theorem dX2_init_33 : decode cX2_init 33 = .ok (.iconst 0, 1) := by decide +kernel
theorem dX2_init_34 : decode cX2_init 34 = .ok (.putfield 26, 3) := by decide +kernel
theorem dX2_init_37 : decode cX2_init 37 = .ok (.aload_n 0, 1) := by decide +kernel
theorem dX2_init_38 : decode cX2_init 38 = .ok (.iconst 0, 1) := by decide +kernel
theorem dX2_init_39 : decode cX2_init 39 = .ok (.putfield 29, 3) := by decide +kernel
theorem dX2_init_42 : decode cX2_init 42 = .ok (.aload_n 0, 1) := by decide +kernel
theorem dX2_init_43 : decode cX2_init 43 = .ok (.aconst_null, 1) := by decide +kernel
theorem dX2_init_44 : decode cX2_init 44 = .ok (.putfield 32, 3) := by decide +kernel
theorem dX2_init_47 : decode cX2_init 47 = .ok (.aload_n 0, 1) := by decide +kernel
theorem dX2_init_48 : decode cX2_init 48 = .ok (.aconst_null, 1) := by decide +kernel
theorem dX2_init_49 : decode cX2_init 49 = .ok (.putfield 36, 3) := by decide +kernel
theorem dX2_init_52 : decode cX2_init 52 = .ok (.aload_n 0, 1) := by decide +kernel
theorem dX2_init_53 : decode cX2_init 53 = .ok (.iconst (-1), 1) := by decide +kernel
theorem dX2_init_54 : decode cX2_init 54 = .ok (.putfield 40, 3) := by decide +kernel
theorem dX2_init_57 : decode cX2_init 57 = .ok (.aload_n 0, 1) := by decide +kernel
theorem dX2_init_58 : decode cX2_init 58 = .ok (.iconst 0, 1) := by decide +kernel
theorem dX2_init_59 : decode cX2_init 59 = .ok (.putfield 43, 3) := by decide +kernel
theorem dX2_init_62 : decode cX2_init 62 = .ok (.return_, 1) := by decide +kernel
theorem dX3_init_0 : decode cX3_init 0 = .ok (.aload_n 0, 1) := by decide +kernel
theorem dX3_init_1 : decode cX3_init 1 = .ok (.invokespecial 3, 3) := by decide +kernel
theorem dX3_init_4 : decode cX3_init 4 = .ok (.aload_n 0, 1) := by decide +kernel
theorem dX3_init_5 : decode cX3_init 5 = .ok (.new 9, 3) := by decide +kernel
theorem dX3_init_8 : decode cX3_init 8 = .ok (.dup, 1) := by decide +kernel
theorem dX3_init_9 : decode cX3_init 9 = .ok (.invokespecial 11, 3) := by decide +kernel
theorem dX3_init_12 : decode cX3_init 12 = .ok (.putfield 12, 3) := by decide +kernel
theorem dX3_init_15 : decode cX3_init 15 = .ok (.aload_n 0, 1) := by decide +kernel
theorem dX3_init_16 : decode cX3_init 16 = .ok (.iconst (-1), 1) := by decide +kernel
theorem dX3_init_17 : decode cX3_init 17 = .ok (.putfield 18, 3) := by decide +kernel
theorem dX3_init_20 : decode cX3_init 20 = .ok (.aload_n 0, 1) := by decide +kernel
theorem dX3_init_21 : decode cX3_init 21 = .ok (.iconst 0, 1) := by decide +kernel
theorem dX3_init_22 : decode cX3_init 22 = .ok (.putfield 22, 3) := by decide +kernel
theorem dX3_init_25 : decode cX3_init 25 = .ok (.aload_n 0, 1) := by decide +kernel
theorem dX3_init_26 : decode cX3_init 26 = .ok (.iconst (-1), 1) := by decide +kernel
theorem dX3_init_27 : decode cX3_init 27 = .ok (.putfield 26, 3) := by decide +kernel
theorem dX3_init_30 : decode cX3_init 30 = .ok (.aload_n 0, 1) := by decide +kernel
theorem dX3_init_31 : decode cX3_init 31 = .ok (.iload_n 1, 1) := by decide +kernel
theorem dX3_init_32 : decode cX3_init 32 = .ok (.putfield 29, 3) := by decide +kernel
theorem dX3_init_35 : decode cX3_init 35 = .ok (.aload_n 0, 1) := by decide +kernel
theorem dX3_init_36 : decode cX3_init 36 = .ok (.iload_n 2, 1) := by decide +kernel
theorem dX3_init_37 : decode cX3_init 37 = .ok (.putfield 32, 3) := by decide +kernel
theorem dX3_init_40 : decode cX3_init 40 = .ok (.aload_n 0, 1) := by decide +kernel
theorem dX3_init_41 : decode cX3_init 41 = .ok (.iload_n 3, 1) := by decide +kernel
theorem dX3_init_42 : decode cX3_init 42 = .ok (.putfield 35, 3) := by decide +kernel
theorem dX3_init_45 : decode cX3_init 45 = .ok (.aload_n 0, 1) := by decide +kernel
theorem dX3_init_46 : decode cX3_init 46 = .ok (.iload 4, 2) := by decide +kernel
theorem dX3_init_48 : decode cX3_init 48 = .ok (.putfield 38, 3) := by decide +kernel
theorem dX3_init_51 : decode cX3_init 51 = .ok (.aload_n 0, 1) := by decide +kernel
theorem dX3_init_52 : decode cX3_init 52 = .ok (.iload 5, 2) := by decide +kernel
theorem dX3_init_54 : decode cX3_init 54 = .ok (.putfield 41, 3) := by decide +kernel
theorem dX3_init_57 : decode cX3_init 57 = .ok (.return_, 1) := by decide +kernel
theorem dX0_init_0 : decode cX0_init 0 = .ok (.aload_n 0, 1) := by decide +kernel
theorem dX0_init_1 : decode cX0_init 1 = .ok (.invokespecial 3, 3) := by decide +kernel
theorem dX0_init_4 : decode cX0_init 4 = .ok (.aload_n 0, 1) := by decide +kernel
theorem dX0_init_5 : decode cX0_init 5 = .ok (.new 9, 3) := by decide +kernel
theorem dX0_init_8 : decode cX0_init 8 = .ok (.dup, 1) := by decide +kernel
theorem dX0_init_9 : decode cX0_init 9 = .ok (.invokespecial 11, 3) := by decide +kernel
theorem dX0_init_12 : decode cX0_init 12 = .ok (.putfield 12, 3) := by decide +kernel
theorem dX0_init_15 : decode cX0_init 15 = .ok (.aload_n 0, 1) := by decide +kernel
theorem dX0_init_16 : decode cX0_init 16 = .ok (.new 9, 3) := by decide +kernel
theorem dX0_init_19 : decode cX0_init 19 = .ok (.dup, 1) := by decide +kernel
theorem dX0_init_20 : decode cX0_init 20 = .ok (.invokespecial 11, 3) := by decide +kernel
theorem dX0_init_23 : decode cX0_init 23 = .ok (.putfield 18, 3) := by decide +kernel
theorem dX0_init_26 : decode cX0_init 26 = .ok (.aload_n 0, 1) := by decide +kernel
theorem dX0_init_27 : decode cX0_init 27 = .ok (.bipush 16, 2) := by decide +kernel
theorem dX0_init_29 : decode cX0_init 29 = .ok (.anewarray 21, 3) := by decide +kernel
theorem dX0_init_32 : decode cX0_init 32 = .ok (.putfield 23, 3) := by decide +kernel
theorem dX0_init_35 : decode cX0_init 35 = .ok (.aload_n 0, 1) := by decide +kernel
theorem dX0_init_36 : decode cX0_init 36 = .ok (.iconst 0, 1) := by decide +kernel
theorem dX0_init_37 : decode cX0_init 37 = .ok (.putfield 27, 3) := by decide +kernel
theorem dX0_init_40 : decode cX0_init 40 = .ok (.aload_n 0, 1) := by decide +kernel
theorem dX0_init_41 : decode cX0_init 41 = .ok (.iload_n 1, 1) := by decide +kernel
theorem dX0_init_42 : decode cX0_init 42 = .ok (.putfield 31, 3) := by decide +kernel
theorem dX0_init_45 : decode cX0_init 45 = .ok (.aload_n 0, 1) := by decide +kernel
theorem dX0_init_46 : decode cX0_init 46 = .ok (.iload 4, 2) := by decide +kernel
theorem dX0_init_48 : decode cX0_init 48 = .ok (.putfield 34, 3) := by decide +kernel
theorem dX0_init_51 : decode cX0_init 51 = .ok (.aload_n 0, 1) := by decide +kernel
theorem dX0_init_52 : decode cX0_init 52 = .ok (.iload 5, 2) := by decide +kernel
theorem dX0_init_54 : decode cX0_init 54 = .ok (.putfield 37, 3) := by decide +kernel
theorem dX0_init_57 : decode cX0_init 57 = .ok (.iload_n 2, 1) := by decide +kernel
theorem dX0_init_58 : decode cX0_init 58 = .ok (.iload_n 3, 1) := by decide +kernel
theorem dX0_init_59 : decode cX0_init 59 = .ok (.isub, 1) := by decide +kernel
theorem dX0_init_60 : decode cX0_init 60 = .ok (.istore 6, 2) := by decide +kernel
theorem dX0_init_62 : decode cX0_init 62 = .ok (.iconst 0, 1) := by decide +kernel
theorem dX0_init_63 : decode cX0_init 63 = .ok (.istore 7, 2) := by decide +kernel
theorem dX0_init_65 : decode cX0_init 65 = .ok (.iconst 0, 1) := by decide +kernel
theorem dX0_init_66 : decode cX0_init 66 = .ok (.istore 8, 2) := by decide +kernel
theorem dX0_init_68 : decode cX0_init 68 = .ok (.iload 8, 2) := by decide +kernel
theorem dX0_init_70 : decode cX0_init 70 = .ok (.iload_n 1, 1) := by decide +kernel
theorem dX0_init_71 : decode cX0_init 71 = .ok (.if_icmp .ge 94, 3) := by decide +kernel
theorem dX0_init_74 : decode cX0_init 74 = .ok (.iload 7, 2) := by decide +kernel
theorem dX0_init_76 : decode cX0_init 76 = .ok (.aload_n 0, 1) := by decide +kernel
theorem dX0_init_77 : decode cX0_init 77 = .ok (.getfield 23, 3) := by decide +kernel
theorem dX0_init_80 : decode cX0_init 80 = .ok (.arraylength, 1) := by decide +kernel
theorem dX0_init_81 : decode cX0_init 81 = .ok (.if_icmp .ge 84, 3) := by decide +kernel
theorem dX0_init_84 : decode cX0_init 84 = .ok (.iload 7, 2) := by decide +kernel
theorem dX0_init_86 : decode cX0_init 86 = .ok (.iload 6, 2) := by decide +kernel
theorem dX0_init_88 : decode cX0_init 88 = .ok (.imul, 1) := by decide +kernel
theorem dX0_init_89 : decode cX0_init 89 = .ok (.istore 9, 2) := by decide +kernel
theorem dX0_init_91 : decode cX0_init 91 = .ok (.iload 9, 2) := by decide +kernel
theorem dX0_init_93 : decode cX0_init 93 = .ok (.iload_n 2, 1) := by decide +kernel
theorem dX0_init_94 : decode cX0_init 94 = .ok (.iadd, 1) := by decide +kernel
theorem dX0_init_95 : decode cX0_init 95 = .ok (.iload_n 1, 1) := by decide +kernel
theorem dX0_init_96 : decode cX0_init 96 = .ok (.invokestatic 40, 3) := by decide +kernel
theorem dX0_init_99 : decode cX0_init 99 = .ok (.istore 8, 2) := by decide +kernel
theorem dX0_init_101 : decode cX0_init 101 = .ok (.iload 7, 2) := by decide +kernel
theorem dX0_init_103 : decode cX0_init 103 = .ok (.ifCond .ne 8, 3) := by decide +kernel
theorem dX0_init_106 : decode cX0_init 106 = .ok (.iload 9, 2) := by decide +kernel
theorem dX0_init_108 : decode cX0_init 108 = .ok (.goto 7, 3) := by decide +kernel
theorem dX0_init_111 : decode cX0_init 111 = .ok (.iload 9, 2) := by decide +kernel
theorem dX0_init_113 : decode cX0_init 113 = .ok (.iload_n 3, 1) := by decide +kernel
theorem dX0_init_114 : decode cX0_init 114 = .ok (.iadd, 1) := by decide +kernel
theorem dX0_init_115 : decode cX0_init 115 = .ok (.istore 10, 2) := by decide +kernel
theorem dX0_init_117 : decode cX0_init 117 = .ok (.iload 8, 2) := by decide +kernel
theorem dX0_init_119 : decode cX0_init 119 = .ok (.iload_n 1, 1) := by decide +kernel
theorem dX0_init_120 : decode cX0_init 120 = .ok (.if_icmp .ne 8, 3) := by decide +kernel
theorem dX0_init_123 : decode cX0_init 123 = .ok (.iload 8, 2) := by decide +kernel
theorem dX0_init_125 : decode cX0_init 125 = .ok (.goto 8, 3) := by decide +kernel
theorem dX0_init_128 : decode cX0_init 128 = .ok (.iload 9, 2) := by decide +kernel
theorem dX0_init_130 : decode cX0_init 130 = .ok (.iload 6, 2) := by decide +kernel
theorem dX0_init_132 : decode cX0_init 132 = .ok (.iadd, 1) := by decide +kernel
theorem dX0_init_133 : decode cX0_init 133 = .ok (.istore 11, 2) := by decide +kernel
theorem dX0_init_135 : decode cX0_init 135 = .ok (.aload_n 0, 1) := by decide +kernel
theorem dX0_init_136 : decode cX0_init 136 = .ok (.getfield 23, 3) := by decide +kernel
theorem dX0_init_139 : decode cX0_init 139 = .ok (.iload 7, 2) := by decide +kernel
theorem dX0_init_141 : decode cX0_init 141 = .ok (.new 21, 3) := by decide +kernel
theorem dX0_init_144 : decode cX0_init 144 = .ok (.dup, 1) := by decide +kernel
theorem dX0_init_145 : decode cX0_init 145 = .ok (.iload 7, 2) := by decide +kernel
theorem dX0_init_147 : decode cX0_init 147 = .ok (.iload 9, 2) := by decide +kernel
theorem dX0_init_149 : decode cX0_init 149 = .ok (.iload 8, 2) := by decide +kernel
theorem dX0_init_151 : decode cX0_init 151 = .ok (.iload 10, 2) := by decide +kernel
theorem dX0_init_153 : decode cX0_init 153 = .ok (.iload 11, 2) := by decide +kernel
theorem dX0_init_155 : decode cX0_init 155 = .ok (.invokespecial 46, 3) := by decide +kernel
theorem dX0_init_158 : decode cX0_init 158 = .ok (.aastore, 1) := by decide +kernel
theorem dX0_init_159 : decode cX0_init 159 = .ok (.iinc 7 1, 3) := by decide +kernel
theorem dX0_init_162 : decode cX0_init 162 = .ok (.goto (-94), 3) := by decide +kernel
theorem dX0_init_165 : decode cX0_init 165 = .ok (.aload_n 0, 1) := by decide +kernel
theorem dX0_init_166 : decode cX0_init 166 = .ok (.iload 7, 2) := by decide +kernel
theorem dX0_init_168 : decode cX0_init 168 = .ok (.putfield 49, 3) := by decide +kernel
theorem dX0_init_171 : decode cX0_init 171 = .ok (.return_, 1) := by decide +kernel
theorem dX4_begin_0 : decode cX4_begin 0 = .ok (.iload_n 1, 1) := by decide +kernel
theorem dX4_begin_1 : decode cX4_begin 1 = .ok (.iconst 4, 1) := by decide +kernel
theorem dX4_begin_2 : decode cX4_begin 2 = .ok (.bipush 32, 2) := by decide +kernel
theorem dX4_begin_4 : decode cX4_begin 4 = .ok (.invokestatic 29, 3) := by decide +kernel
theorem dX4_begin_7 : decode cX4_begin 7 = .ok (.ifCond .ne 13, 3) := by decide +kernel
theorem dX4_begin_10 : decode cX4_begin 10 = .ok (.new 33, 3) := by decide +kernel
theorem dX4_begin_13 : decode cX4_begin 13 = .ok (.dup, 1) := by decide +kernel
theorem dX4_begin_14 : decode cX4_begin 14 = .ok (.ldc 35, 2) := by decide +kernel
theorem dX4_begin_16 : decode cX4_begin 16 = .ok (.invokespecial 37, 3) := by decide +kernel
theorem dX4_begin_19 : decode cX4_begin 19 = .ok (.athrow, 1) := by decide +kernel
theorem dX4_begin_20 : decode cX4_begin 20 = .ok (.iload_n 2, 1) := by decide +kernel
theorem dX4_begin_21 : decode cX4_begin 21 = .ok (.iconst 2, 1) := by decide +kernel
theorem dX4_begin_22 : decode cX4_begin 22 = .ok (.bipush 12, 2) := by decide +kernel
theorem dX4_begin_24 : decode cX4_begin 24 = .ok (.invokestatic 29, 3) := by decide +kernel
theorem dX4_begin_27 : decode cX4_begin 27 = .ok (.ifCond .ne 13, 3) := by decide +kernel
theorem dX4_begin_30 : decode cX4_begin 30 = .ok (.new 33, 3) := by decide +kernel
theorem dX4_begin_33 : decode cX4_begin 33 = .ok (.dup, 1) := by decide +kernel
theorem dX4_begin_34 : decode cX4_begin 34 = .ok (.ldc 40, 2) := by decide +kernel
theorem dX4_begin_36 : decode cX4_begin 36 = .ok (.invokespecial 37, 3) := by decide +kernel
theorem dX4_begin_39 : decode cX4_begin 39 = .ok (.athrow, 1) := by decide +kernel
theorem dX4_begin_40 : decode cX4_begin 40 = .ok (.iload_n 3, 1) := by decide +kernel
theorem dX4_begin_41 : decode cX4_begin 41 = .ok (.iconst 0, 1) := by decide +kernel
theorem dX4_begin_42 : decode cX4_begin 42 = .ok (.iconst 3, 1) := by decide +kernel
theorem dX4_begin_43 : decode cX4_begin 43 = .ok (.invokestatic 29, 3) := by decide +kernel
theorem dX4_begin_46 : decode cX4_begin 46 = .ok (.ifCond .eq 10, 3) := by decide +kernel
theorem dX4_begin_49 : decode cX4_begin 49 = .ok (.iconst 2, 1) := by decide +kernel
theorem dX4_begin_50 : decode cX4_begin 50 = .ok (.iload_n 3, 1) := by decide +kernel
theorem dX4_begin_51 : decode cX4_begin 51 = .ok (.imul, 1) := by decide +kernel
theorem dX4_begin_52 : decode cX4_begin 52 = .ok (.iload_n 2, 1) := by decide +kernel
theorem dX4_begin_53 : decode cX4_begin 53 = .ok (.if_icmp .lt 13, 3) := by decide +kernel
theorem dX4_begin_56 : decode cX4_begin 56 = .ok (.new 33, 3) := by decide +kernel
theorem dX4_begin_59 : decode cX4_begin 59 = .ok (.dup, 1) := by decide +kernel
theorem dX4_begin_60 : decode cX4_begin 60 = .ok (.ldc 42, 2) := by decide +kernel
theorem dX4_begin_62 : decode cX4_begin 62 = .ok (.invokespecial 37, 3) := by decide +kernel
theorem dX4_begin_65 : decode cX4_begin 65 = .ok (.athrow, 1) := by decide +kernel
theorem dX4_begin_66 : decode cX4_begin 66 = .ok (.iload 4, 2) := by decide +kernel
theorem dX4_begin_68 : decode cX4_begin 68 = .ok (.iconst 1, 1) := by decide +kernel
theorem dX4_begin_69 : decode cX4_begin 69 = .ok (.bipush 40, 2) := by decide +kernel
theorem dX4_begin_71 : decode cX4_begin 71 = .ok (.invokestatic 29, 3) := by decide +kernel
theorem dX4_begin_74 : decode cX4_begin 74 = .ok (.ifCond .ne 13, 3) := by decide +kernel
theorem dX4_begin_77 : decode cX4_begin 77 = .ok (.new 33, 3) := by decide +kernel
theorem dX4_begin_80 : decode cX4_begin 80 = .ok (.dup, 1) := by decide +kernel
theorem dX4_begin_81 : decode cX4_begin 81 = .ok (.ldc 44, 2) := by decide +kernel
theorem dX4_begin_83 : decode cX4_begin 83 = .ok (.invokespecial 37, 3) := by decide +kernel
theorem dX4_begin_86 : decode cX4_begin 86 = .ok (.athrow, 1) := by decide +kernel
theorem dX4_begin_87 : decode cX4_begin 87 = .ok (.iload 5, 2) := by decide +kernel
theorem dX4_begin_89 : decode cX4_begin 89 = .ok (.iconst 0, 1) := by decide +kernel
theorem dX4_begin_90 : decode cX4_begin 90 = .ok (.sipush 10000, 3) := by decide +kernel
theorem dX4_begin_93 : decode cX4_begin 93 = .ok (.invokestatic 29, 3) := by decide +kernel
theorem dX4_begin_96 : decode cX4_begin 96 = .ok (.ifCond .ne 13, 3) := by decide +kernel
theorem dX4_begin_99 : decode cX4_begin 99 = .ok (.new 33, 3) := by decide +kernel
theorem dX4_begin_102 : decode cX4_begin 102 = .ok (.dup, 1) := by decide +kernel
theorem dX4_begin_103 : decode cX4_begin 103 = .ok (.ldc 46, 2) := by decide +kernel
theorem dX4_begin_105 : decode cX4_begin 105 = .ok (.invokespecial 37, 3) := by decide +kernel
theorem dX4_begin_108 : decode cX4_begin 108 = .ok (.athrow, 1) := by decide +kernel
theorem dX4_begin_109 : decode cX4_begin 109 = .ok (.aload_n 0, 1) := by decide +kernel
theorem dX4_begin_110 : decode cX4_begin 110 = .ok (.getfield 21, 3) := by decide +kernel
theorem dX4_begin_113 : decode cX4_begin 113 = .ok (.istore 6, 2) := by decide +kernel
theorem dX4_begin_115 : decode cX4_begin 115 = .ok (.iload 6, 2) := by decide +kernel
theorem dX4_begin_117 : decode cX4_begin 117 = .ok (.ifCond .lt 13, 3) := by decide +kernel
theorem dX4_begin_120 : decode cX4_begin 120 = .ok (.iload 6, 2) := by decide +kernel
theorem dX4_begin_122 : decode cX4_begin 122 = .ok (.aload_n 0, 1) := by decide +kernel
theorem dX4_begin_123 : decode cX4_begin 123 = .ok (.getfield 11, 3) := by decide +kernel
theorem dX4_begin_126 : decode cX4_begin 126 = .ok (.arraylength, 1) := by decide +kernel
theorem dX4_begin_127 : decode cX4_begin 127 = .ok (.if_icmp .lt 13, 3) := by decide +kernel
theorem dX4_begin_130 : decode cX4_begin 130 = .ok (.new 48, 3) := by decide +kernel
theorem dX4_begin_133 : decode cX4_begin 133 = .ok (.dup, 1) := by decide +kernel
theorem dX4_begin_134 : decode cX4_begin 134 = .ok (.ldc 50, 2) := by decide +kernel
theorem dX4_begin_136 : decode cX4_begin 136 = .ok (.invokespecial 52, 3) := by decide +kernel
theorem dX4_begin_139 : decode cX4_begin 139 = .ok (.athrow, 1) := by decide +kernel
theorem dX4_begin_140 : decode cX4_begin 140 = .ok (.aload_n 0, 1) := by decide +kernel
theorem dX4_begin_141 : decode cX4_begin 141 = .ok (.getfield 11, 3) := by decide +kernel
theorem dX4_begin_144 : decode cX4_begin 144 = .ok (.iload 6, 2) := by decide +kernel
theorem dX4_begin_146 : decode cX4_begin 146 = .ok (.new 9, 3) := by decide +kernel
theorem dX4_begin_149 : decode cX4_begin 149 = .ok (.dup, 1) := by decide +kernel
theorem dX4_begin_150 : decode cX4_begin 150 = .ok (.iload_n 1, 1) := by decide +kernel
theorem dX4_begin_151 : decode cX4_begin 151 = .ok (.iload_n 2, 1) := by decide +kernel
theorem dX4_begin_152 : decode cX4_begin 152 = .ok (.iload_n 3, 1) := by decide +kernel
theorem dX4_begin_153 : decode cX4_begin 153 = .ok (.iload 4, 2) := by decide +kernel
theorem dX4_begin_155 : decode cX4_begin 155 = .ok (.iload 5, 2) := by decide +kernel
theorem dX4_begin_157 : decode cX4_begin 157 = .ok (.invokespecial 53, 3) := by decide +kernel
theorem dX4_begin_160 : decode cX4_begin 160 = .ok (.aastore, 1) := by decide +kernel
theorem dX4_begin_161 : decode cX4_begin 161 = .ok (.aload_n 0, 1) := by decide +kernel
theorem dX4_begin_162 : decode cX4_begin 162 = .ok (.iload 6, 2) := by decide +kernel
theorem dX4_begin_164 : decode cX4_begin 164 = .ok (.iconst 1, 1) := by decide +kernel
theorem dX4_begin_165 : decode cX4_begin 165 = .ok (.iadd, 1) := by decide +kernel
theorem dX4_begin_166 : decode cX4_begin 166 = .ok (.putfield 21, 3) := by decide +kernel
theorem dX4_begin_169 : decode cX4_begin 169 = .ok (.iload 6, 2) := by decide +kernel
theorem dX4_begin_171 : decode cX4_begin 171 = .ok (.ireturn, 1) := by decide +kernel
theorem dX4_init_0 : decode cX4_init 0 = .ok (.aload_n 0, 1) := by decide +kernel
theorem dX4_init_1 : decode cX4_init 1 = .ok (.invokespecial 3, 3) := by decide +kernel
theorem dX4_init_4 : decode cX4_init 4 = .ok (.aload_n 0, 1) := by decide +kernel
theorem dX4_init_5 : decode cX4_init 5 = .ok (.iconst 5, 1) := by decide +kernel
theorem dX4_init_6 : decode cX4_init 6 = .ok (.anewarray 9, 3) := by decide +kernel
theorem dX4_init_9 : decode cX4_init 9 = .ok (.putfield 11, 3) := by decide +kernel
theorem dX4_init_12 : decode cX4_init 12 = .ok (.aload_n 0, 1) := by decide +kernel
theorem dX4_init_13 : decode cX4_init 13 = .ok (.iconst 3, 1) := by decide +kernel
theorem dX4_init_14 : decode cX4_init 14 = .ok (.anewarray 15, 3) := by decide +kernel
theorem dX4_init_17 : decode cX4_init 17 = .ok (.putfield 17, 3) := by decide +kernel
theorem dX4_init_20 : decode cX4_init 20 = .ok (.aload_n 0, 1) := by decide +kernel
theorem dX4_init_21 : decode cX4_init 21 = .ok (.iconst 0, 1) := by decide +kernel
theorem dX4_init_22 : decode cX4_init 22 = .ok (.putfield 21, 3) := by decide +kernel
theorem dX4_init_25 : decode cX4_init 25 = .ok (.aload_n 0, 1) := by decide +kernel
theorem dX4_init_26 : decode cX4_init 26 = .ok (.iconst 0, 1) := by decide +kernel
theorem dX4_init_27 : decode cX4_init 27 = .ok (.putfield 25, 3) := by decide +kernel
theorem dX4_init_30 : decode cX4_init 30 = .ok (.iconst 0, 1) := by decide +kernel
theorem dX4_init_31 : decode cX4_init 31 = .ok (.istore_n 1, 1) := by decide +kernel
theorem dX4_init_32 : decode cX4_init 32 = .ok (.iload_n 1, 1) := by decide +kernel
theorem dX4_init_33 : decode cX4_init 33 = .ok (.aload_n 0, 1) := by decide +kernel
theorem dX4_init_34 : decode cX4_init 34 = .ok (.getfield 17, 3) := by decide +kernel
theorem dX4_init_37 : decode cX4_init 37 = .ok (.arraylength, 1) := by decide +kernel
theorem dX4_init_38 : decode cX4_init 38 = .ok (.if_icmp .ge 22, 3) := by decide +kernel
theorem dX4_init_41 : decode cX4_init 41 = .ok (.aload_n 0, 1) := by decide +kernel
theorem dX4_init_42 : decode cX4_init 42 = .ok (.getfield 17, 3) := by decide +kernel
theorem dX4_init_45 : decode cX4_init 45 = .ok (.iload_n 1, 1) := by decide +kernel
theorem dX4_init_46 : decode cX4_init 46 = .ok (.new 15, 3) := by decide +kernel
theorem dX4_init_49 : decode cX4_init 49 = .ok (.dup, 1) := by decide +kernel
theorem dX4_init_50 : decode cX4_init 50 = .ok (.invokespecial 28, 3) := by decide +kernel
theorem dX4_init_53 : decode cX4_init 53 = .ok (.aastore, 1) := by decide +kernel
theorem dX4_init_54 : decode cX4_init 54 = .ok (.iinc 1 1, 3) := by decide +kernel
theorem dX4_init_57 : decode cX4_init 57 = .ok (.goto (-25), 3) := by decide +kernel
theorem dX4_init_60 : decode cX4_init 60 = .ok (.return_, 1) := by decide +kernel

def wX1_init (a0 : Nat) (S : HS) (Q : HS → Prop) : Prop := (∀ q1, q1 ∉ gL S → ∀ S1, S1 = nw S 6 256 q1 → (ok S1 a0 1 ∧ (∀ S2, S2 = sR S1 32 a0 (some q1) → Q S2)))

def wX2_init (a0 : Nat) (S : HS) (Q : HS → Prop) : Prop := (ok S a0 2 ∧ (∀ S1, S1 = sI S 64 a0 (100 : Int32) → (ok S1 a0 2 ∧ (∀ S2, S2 = sI S1 65 a0 (100 : Int32) → (∀ q1, q1 ∉ gL S2 → ∀ S3, S3 = nw S2 7 8 q1 → (ok S3 a0 2 ∧ (∀ S4, S4 = sR S3 66 a0 (some q1) → (∀ q2, q2 ∉ gL S4 → ∀ S5, S5 = nw S4 6 8 q2 → (ok S5 a0 2 ∧ (∀ S6, S6 = sR S5 67 a0 (some q2) → (ok S6 a0 2 ∧ (∀ S7, S7 = sI S6 68 a0 (0 : Int32) → (ok S7 a0 2 ∧ (∀ S8, S8 = sI S7 69 a0 (0 : Int32) → (ok S8 a0 2 ∧ (∀ S9, S9 = sR S8 70 a0 none → (ok S9 a0 2 ∧ (∀ S10, S10 = sR S9 71 a0 none → (ok S10 a0 2 ∧ (∀ S11, S11 = sI S10 72 a0 (-1 : Int32) → (ok S11 a0 2 ∧ (∀ S12, S12 = sI S11 73 a0 (0 : Int32) → Q S12))))))))))))))))))))))

def wX3_init (a0 : Nat) (x1 : Int32) (x2 : Int32) (x3 : Int32) (x4 : Int32) (x5 : Int32) (S : HS) (Q : HS → Prop) : Prop := (∀ q1, q1 ∉ gL S → ∀ S1, S1 = nw S 1 0 q1 → (wX1_init q1 S1 (fun S2 => (ok S2 a0 3 ∧ (∀ S3, S3 = sR S2 101 a0 (some q1) → (ok S3 a0 3 ∧ (∀ S4, S4 = sI S3 102 a0 (-1 : Int32) → (ok S4 a0 3 ∧ (∀ S5, S5 = sI S4 103 a0 (0 : Int32) → (ok S5 a0 3 ∧ (∀ S6, S6 = sI S5 104 a0 (-1 : Int32) → (ok S6 a0 3 ∧ (∀ S7, S7 = sI S6 96 a0 x1 → (ok S7 a0 3 ∧ (∀ S8, S8 = sI S7 97 a0 x2 → (ok S8 a0 3 ∧ (∀ S9, S9 = sI S8 98 a0 x3 → (ok S9 a0 3 ∧ (∀ S10, S10 = sI S9 99 a0 x4 → (ok S10 a0 3 ∧ (∀ S11, S11 = sI S10 100 a0 x5 → Q S11)))))))))))))))))))))
def wX0_init_L68 (c0 : Nat) (c1 : Int32) (c2 : Int32) (c3 : Int32) (c6 : Int32) : Nat → Int32 → Int32 → HS → (Int32 → Int32 → HS → Prop) → Prop
  | 0, _, _, _, _ => False
  | n + 1, m7, m8, S, K => ((c1 ≤ m8 → K m7 m8 S) ∧ (¬ c1 ≤ m8 → (ok S c0 0 ∧ (∀ o1, o1 = gR S 5 c0 → (∃ q4, o1 = some q4 ∧ (ok S q4 10 ∧ (((nI (gN S q4)) ≤ m7 → K m7 m8 S) ∧ (¬ (nI (gN S q4)) ≤ m7 → ((¬ m7 = 0 → ((¬ (if c1 < ((m7 * c6) + c2) then c1 else ((m7 * c6) + c2)) = c1 → (ok S c0 0 ∧ (∀ o2, o2 = gR S 5 c0 → (∀ q5, q5 ∉ gL S → ∀ S13, S13 = nw S 3 0 q5 → (wX3_init q5 m7 (m7 * c6) (if c1 < ((m7 * c6) + c2) then c1 else ((m7 * c6) + c2)) ((m7 * c6) + c3) ((m7 * c6) + c6) S13 (fun S14 => (∃ q6, o2 = some q6 ∧ (ok S14 q6 10 ∧ vp_in m7 (gN S14 q6) ∧ (ok S14 q5 3 ∧ (∀ S15, S15 = sQ S14 q6 m7.toNatClampNeg (some q5) → wX0_init_L68 c0 c1 c2 c3 c6 n (m7 + (1 : Int32)) (if c1 < ((m7 * c6) + c2) then c1 else ((m7 * c6) + c2)) S15 K)))))))))) ∧ ((if c1 < ((m7 * c6) + c2) then c1 else ((m7 * c6) + c2)) = c1 → (ok S c0 0 ∧ (∀ o3, o3 = gR S 5 c0 → (∀ q7, q7 ∉ gL S → ∀ S16, S16 = nw S 3 0 q7 → (wX3_init q7 m7 (m7 * c6) (if c1 < ((m7 * c6) + c2) then c1 else ((m7 * c6) + c2)) ((m7 * c6) + c3) (if c1 < ((m7 * c6) + c2) then c1 else ((m7 * c6) + c2)) S16 (fun S17 => (∃ q8, o3 = some q8 ∧ (ok S17 q8 10 ∧ vp_in m7 (gN S17 q8) ∧ (ok S17 q7 3 ∧ (∀ S18, S18 = sQ S17 q8 m7.toNatClampNeg (some q7) → wX0_init_L68 c0 c1 c2 c3 c6 n (m7 + (1 : Int32)) (if c1 < ((m7 * c6) + c2) then c1 else ((m7 * c6) + c2)) S18 K)))))))))))) ∧ (m7 = 0 → ((¬ (if c1 < ((m7 * c6) + c2) then c1 else ((m7 * c6) + c2)) = c1 → (ok S c0 0 ∧ (∀ o4, o4 = gR S 5 c0 → (∀ q9, q9 ∉ gL S → ∀ S19, S19 = nw S 3 0 q9 → (wX3_init q9 m7 (m7 * c6) (if c1 < ((m7 * c6) + c2) then c1 else ((m7 * c6) + c2)) (m7 * c6) ((m7 * c6) + c6) S19 (fun S20 => (∃ q10, o4 = some q10 ∧ (ok S20 q10 10 ∧ vp_in m7 (gN S20 q10) ∧ (ok S20 q9 3 ∧ (∀ S21, S21 = sQ S20 q10 m7.toNatClampNeg (some q9) → wX0_init_L68 c0 c1 c2 c3 c6 n (m7 + (1 : Int32)) (if c1 < ((m7 * c6) + c2) then c1 else ((m7 * c6) + c2)) S21 K)))))))))) ∧ ((if c1 < ((m7 * c6) + c2) then c1 else ((m7 * c6) + c2)) = c1 → (ok S c0 0 ∧ (∀ o5, o5 = gR S 5 c0 → (∀ q11, q11 ∉ gL S → ∀ S22, S22 = nw S 3 0 q11 → (wX3_init q11 m7 (m7 * c6) (if c1 < ((m7 * c6) + c2) then c1 else ((m7 * c6) + c2)) (m7 * c6) (if c1 < ((m7 * c6) + c2) then c1 else ((m7 * c6) + c2)) S22 (fun S23 => (∃ q12, o5 = some q12 ∧ (ok S23 q12 10 ∧ vp_in m7 (gN S23 q12) ∧ (ok S23 q11 3 ∧ (∀ S24, S24 = sQ S23 q12 m7.toNatClampNeg (some q11) → wX0_init_L68 c0 c1 c2 c3 c6 n (m7 + (1 : Int32)) (if c1 < ((m7 * c6) + c2) then c1 else ((m7 * c6) + c2)) S24 K)))))))))))))))))))))
def wX0_init (a0 : Nat) (x1 : Int32) (x2 : Int32) (x3 : Int32) (x4 : Int32) (x5 : Int32) (S : HS) (Q : HS → Prop) : Prop := (∀ q1, q1 ∉ gL S → ∀ S1, S1 = nw S 1 0 q1 → (wX1_init q1 S1 (fun S2 => (ok S2 a0 0 ∧ (∀ S3, S3 = sR S2 3 a0 (some q1) → (∀ q2, q2 ∉ gL S3 → ∀ S4, S4 = nw S3 1 0 q2 → (wX1_init q2 S4 (fun S5 => (ok S5 a0 0 ∧ (∀ S6, S6 = sR S5 4 a0 (some q2) → (∀ q3, q3 ∉ gL S6 → ∀ S7, S7 = nw S6 10 16 q3 → (ok S7 a0 0 ∧ (∀ S8, S8 = sR S7 5 a0 (some q3) → (ok S8 a0 0 ∧ (∀ S9, S9 = sI S8 7 a0 (0 : Int32) → (ok S9 a0 0 ∧ (∀ S10, S10 = sI S9 0 a0 x1 → (ok S10 a0 0 ∧ (∀ S11, S11 = sI S10 1 a0 x4 → (ok S11 a0 0 ∧ (∀ S12, S12 = sI S11 2 a0 x5 → (∃ n1 : Nat, n1 ≤ 17 ∧ wX0_init_L68 a0 x1 x2 x3 (x2 - x3) n1 (0 : Int32) (0 : Int32) S12 (fun u1 u2 S25 => (ok S25 a0 0 ∧ (∀ S26, S26 = sI S25 6 a0 u1 → Q S26)))))))))))))))))))))))))

def wX4_begin (a0 : Nat) (x1 : Int32) (x2 : Int32) (x3 : Int32) (x4 : Int32) (x5 : Int32) (S : HS) (Q : Int32 → HS → Prop) (QX : String → HS → Prop) : Prop := (wX4_isWithin x1 (4 : Int32) (32 : Int32) S (fun r1 S1 => ((¬ r1 = 0 → (wX4_isWithin x2 (2 : Int32) (12 : Int32) S1 (fun r2 S2 => ((¬ r2 = 0 → (wX4_isWithin x3 (0 : Int32) (3 : Int32) S2 (fun r3 S3 => ((r3 = 0 → QX "java/lang/IllegalArgumentException" S3) ∧ (¬ r3 = 0 → ((((2 : Int32) * x3) < x2 → (wX4_isWithin x4 (1 : Int32) (40 : Int32) S3 (fun r4 S4 => ((¬ r4 = 0 → (wX4_isWithin x5 (0 : Int32) (10000 : Int32) S4 (fun r5 S5 => ((¬ r5 = 0 → (ok S5 a0 4 ∧ (((gI S5 130 a0) < 0 → QX "java/lang/IllegalStateException" S5) ∧ (¬ (gI S5 130 a0) < 0 → (ok S5 a0 4 ∧ (∀ o1, o1 = gR S5 128 a0 → (∃ q1, o1 = some q1 ∧ (ok S5 q1 8 ∧ (((gI S5 130 a0) < (nI (gN S5 q1)) → (ok S5 a0 4 ∧ (∀ o2, o2 = gR S5 128 a0 → (∀ q2, q2 ∉ gL S5 → ∀ S6, S6 = nw S5 0 0 q2 → (wX0_init q2 x1 x2 x3 x4 x5 S6 (fun S7 => (∃ q3, o2 = some q3 ∧ (ok S7 q3 8 ∧ vp_in (gI S5 130 a0) (gN S7 q3) ∧ (ok S7 q2 0 ∧ (∀ S8, S8 = sQ S7 q3 (gI S5 130 a0).toNatClampNeg (some q2) → (ok S8 a0 4 ∧ (∀ S9, S9 = sI S8 130 a0 ((gI S5 130 a0) + (1 : Int32)) → Q (gI S5 130 a0) S9)))))))))))) ∧ (¬ (gI S5 130 a0) < (nI (gN S5 q1)) → QX "java/lang/IllegalStateException" S5)))))))))) ∧ (r5 = 0 → QX "java/lang/IllegalArgumentException" S5))))) ∧ (r4 = 0 → QX "java/lang/IllegalArgumentException" S4))))) ∧ (¬ ((2 : Int32) * x3) < x2 → QX "java/lang/IllegalArgumentException" S3))))))) ∧ (r2 = 0 → QX "java/lang/IllegalArgumentException" S2))))) ∧ (r1 = 0 → QX "java/lang/IllegalArgumentException" S1))))
def wX4_init_L32 (c0 : Nat) : Nat → Int32 → HS → (Int32 → HS → Prop) → Prop
  | 0, _, _, _ => False
  | n + 1, m1, S, K => (ok S c0 4 ∧ (∀ o1, o1 = gR S 129 c0 → (∃ q3, o1 = some q3 ∧ (ok S q3 9 ∧ (((nI (gN S q3)) ≤ m1 → K m1 S) ∧ (¬ (nI (gN S q3)) ≤ m1 → (ok S c0 4 ∧ (∀ o2, o2 = gR S 129 c0 → (∀ q4, q4 ∉ gL S → ∀ S7, S7 = nw S 2 0 q4 → (wX2_init q4 S7 (fun S8 => (∃ q5, o2 = some q5 ∧ (ok S8 q5 9 ∧ vp_in m1 (gN S8 q5) ∧ (ok S8 q4 2 ∧ (∀ S9, S9 = sQ S8 q5 m1.toNatClampNeg (some q4) → wX4_init_L32 c0 n (m1 + (1 : Int32)) S9 K)))))))))))))))
def wX4_init (a0 : Nat) (S : HS) (Q : HS → Prop) : Prop := (∀ q1, q1 ∉ gL S → ∀ S1, S1 = nw S 8 5 q1 → (ok S1 a0 4 ∧ (∀ S2, S2 = sR S1 128 a0 (some q1) → (∀ q2, q2 ∉ gL S2 → ∀ S3, S3 = nw S2 9 3 q2 → (ok S3 a0 4 ∧ (∀ S4, S4 = sR S3 129 a0 (some q2) → (ok S4 a0 4 ∧ (∀ S5, S5 = sI S4 130 a0 (0 : Int32) → (ok S5 a0 4 ∧ (∀ S6, S6 = sI S5 131 a0 (0 : Int32) → (∃ n1 : Nat, n1 ≤ 4 ∧ wX4_init_L32 a0 n1 (0 : Int32) S6 (fun u1 S10 => Q S10))))))))))))
theorem kM_RX1_3 : Cond.methodLink RX1 3 Lib.objectInit ∈ T0 := T0_mem (i := 224) (by decide +kernel) (by decide +kernel)
theorem kM_RX2_3 : Cond.methodLink RX2 3 Lib.objectInit ∈ T0 := T0_mem (i := 62) (by decide +kernel) (by decide +kernel)
theorem kM_RX3_3 : Cond.methodLink RX3 3 Lib.objectInit ∈ T0 := T0_mem (i := 238) (by decide +kernel) (by decide +kernel)
theorem kL_RX3_9 : Cond.classLink RX3 9 RX1 ∈ T0 := T0_mem (i := 239) (by decide +kernel) (by decide +kernel)
theorem kN_1 : Cond.instantiable RX1 1 ∈ T0 := T0_mem (i := 220) (by decide +kernel) (by decide +kernel)
theorem hfs_1 : ∀ j, j < 1 → defaultValue (tyX1 j) = vp_V (fs0 1) j := by decide +kernel
theorem kC_X1_init : Cond.code yX1_init cX1_init 1 none ∈ T0 := T0_mem (i := 223) (by decide +kernel) (by decide +kernel)
theorem kM_RX3_11 : Cond.methodLinkNest RX3 11 yX1_init "StitchBanner" ∈ T0 := T0_mem (i := 240) (by decide +kernel) (by decide +kernel)
theorem hd_X1_init : yX1_init.cls ≠ "java/lang/invoke/MethodHandle" ∧ yX1_init.cls ≠ "java/lang/invoke/VarHandle" ∧ (parseMethodDescriptor yX1_init.desc).map (fun d => d.parameters.length) = some 0 := by decide +kernel
theorem kO_X1_init : Cond.instanceMethod yX1_init ∈ T0 := T0_mem (i := 222) (by decide +kernel) (by decide +kernel)
theorem kF_RX3_12 : Cond.fieldLink RX3 12 RX3 (TX3 5).2.1 (TX3 5).2.2.1 ∈ T0 := T0_mem (i := 251) (by decide +kernel) (by decide +kernel)
theorem kF_RX3_18 : Cond.fieldLink RX3 18 RX3 (TX3 6).2.1 (TX3 6).2.2.1 ∈ T0 := T0_mem (i := 253) (by decide +kernel) (by decide +kernel)
theorem kF_RX3_22 : Cond.fieldLink RX3 22 RX3 (TX3 7).2.1 (TX3 7).2.2.1 ∈ T0 := T0_mem (i := 257) (by decide +kernel) (by decide +kernel)
theorem kF_RX3_29 : Cond.fieldLink RX3 29 RX3 (TX3 0).2.1 (TX3 0).2.2.1 ∈ T0 := T0_mem (i := 241) (by decide +kernel) (by decide +kernel)
theorem kM_RX0_3 : Cond.methodLink RX0 3 Lib.objectInit ∈ T0 := T0_mem (i := 218) (by decide +kernel) (by decide +kernel)
theorem kL_RX0_9 : Cond.classLink RX0 9 RX1 ∈ T0 := T0_mem (i := 219) (by decide +kernel) (by decide +kernel)
theorem kM_RX0_11 : Cond.methodLinkNest RX0 11 yX1_init "StitchBanner" ∈ T0 := T0_mem (i := 221) (by decide +kernel) (by decide +kernel)
theorem kL_RX0_21 : Cond.classLink RX0 21 RX3 ∈ T0 := T0_mem (i := 229) (by decide +kernel) (by decide +kernel)
theorem kF_RX0_37 : Cond.fieldLink RX0 37 RX0 (TX0 2).2.1 (TX0 2).2.2.1 ∈ T0 := T0_mem (i := 285) (by decide +kernel) (by decide +kernel)
theorem kN_3 : Cond.instantiable RX3 9 ∈ T0 := T0_mem (i := 234) (by decide +kernel) (by decide +kernel)
theorem hfs_3 : ∀ j, j < 9 → defaultValue (tyX3 j) = vp_V (fs0 3) j := by decide +kernel
theorem kC_X3_init : Cond.code yX3_init cX3_init 6 none ∈ T0 := T0_mem (i := 237) (by decide +kernel) (by decide +kernel)
theorem kM_RX0_46 : Cond.methodLink RX0 46 yX3_init ∈ T0 := T0_mem (i := 235) (by decide +kernel) (by decide +kernel)
theorem hd_X3_init : yX3_init.cls ≠ "java/lang/invoke/MethodHandle" ∧ yX3_init.cls ≠ "java/lang/invoke/VarHandle" ∧ (parseMethodDescriptor yX3_init.desc).map (fun d => d.parameters.length) = some 5 := by decide +kernel
theorem kO_X3_init : Cond.instanceMethod yX3_init ∈ T0 := T0_mem (i := 236) (by decide +kernel) (by decide +kernel)
theorem kF_RX0_49 : Cond.fieldLink RX0 49 RX0 (TX0 6).2.1 (TX0 6).2.2.1 ∈ T0 := T0_mem (i := 290) (by decide +kernel) (by decide +kernel)
theorem kF_RX4_21 : Cond.fieldLink RX4 21 RX4 (TX4 2).2.1 (TX4 2).2.2.1 ∈ T0 := T0_mem (i := 103) (by decide +kernel) (by decide +kernel)
theorem kL_RX4_9 : Cond.classLink RX4 9 RX0 ∈ T0 := T0_mem (i := 54) (by decide +kernel) (by decide +kernel)
theorem kN_0 : Cond.instantiable RX0 8 ∈ T0 := T0_mem (i := 214) (by decide +kernel) (by decide +kernel)
theorem hfs_0 : ∀ j, j < 8 → defaultValue (tyX0 j) = vp_V (fs0 0) j := by decide +kernel
theorem kC_X0_init : Cond.code yX0_init cX0_init 12 none ∈ T0 := T0_mem (i := 217) (by decide +kernel) (by decide +kernel)
theorem kM_RX4_53 : Cond.methodLink RX4 53 yX0_init ∈ T0 := T0_mem (i := 215) (by decide +kernel) (by decide +kernel)
theorem hd_X0_init : yX0_init.cls ≠ "java/lang/invoke/MethodHandle" ∧ yX0_init.cls ≠ "java/lang/invoke/VarHandle" ∧ (parseMethodDescriptor yX0_init.desc).map (fun d => d.parameters.length) = some 5 := by decide +kernel
theorem kO_X0_init : Cond.instanceMethod yX0_init ∈ T0 := T0_mem (i := 216) (by decide +kernel) (by decide +kernel)
theorem kM_RX4_3 : Cond.methodLink RX4 3 Lib.objectInit ∈ T0 := T0_mem (i := 51) (by decide +kernel) (by decide +kernel)
theorem kL_RX4_15 : Cond.classLink RX4 15 RX2 ∈ T0 := T0_mem (i := 56) (by decide +kernel) (by decide +kernel)
theorem kN_2 : Cond.instantiable RX2 10 ∈ T0 := T0_mem (i := 58) (by decide +kernel) (by decide +kernel)
theorem hfs_2 : ∀ j, j < 10 → defaultValue (tyX2 j) = vp_V (fs0 2) j := by decide +kernel
theorem kC_X2_init : Cond.code yX2_init cX2_init 1 none ∈ T0 := T0_mem (i := 61) (by decide +kernel) (by decide +kernel)
theorem kM_RX4_28 : Cond.methodLinkNest RX4 28 yX2_init "StitchBanner" ∈ T0 := T0_mem (i := 59) (by decide +kernel) (by decide +kernel)
theorem hd_X2_init : yX2_init.cls ≠ "java/lang/invoke/MethodHandle" ∧ yX2_init.cls ≠ "java/lang/invoke/VarHandle" ∧ (parseMethodDescriptor yX2_init.desc).map (fun d => d.parameters.length) = some 0 := by decide +kernel
theorem kO_X2_init : Cond.instanceMethod yX2_init ∈ T0 := T0_mem (i := 60) (by decide +kernel) (by decide +kernel)
set_option maxHeartbeats 4000000 in
set_option maxRecDepth 100000 in
theorem met_X1_init (l : Launch) (a0 : Nat) : MV l yX1_init cX1_init 1 none 1 12 1 256 [.ref a0] (wX1_init a0) := by
  refine MV.of (by decide) (Nat.le_of_ble_eq_true rfl) ?_
  intro p e s m below meth c D cs lo S Q ls B hr hlk hin
  intro h hl hw
  replace hl : lv_has ls 1 [(0, .ref a0)] := hl
  refine lv_aload_n B.1.1 B.1.2.1 dX1_init_0 rfl (lv_at hl 0 rfl) ?_
  refine q_objInit B kM_RX1_3 kO_objinit kC_objinit hl.1 dX1_init_1 (Nat.le_of_ble_eq_true rfl) (Nat.le_of_ble_eq_true rfl) ?_
  refine lv_aload_n B.1.1 B.1.2.1 dX1_init_4 rfl (lv_at hl 0 rfl) ?_
  refine lv_sipush (v := (256 : Int32)) B.1.1 B.1.2.1 dX1_init_5 (by decide) ?_
  refine q_newi B h (N' := 256) kA_int (by decide) (by decide) (Nat.le_of_ble_eq_true rfl) (Nat.le_of_ble_eq_true rfl) (Nat.le_of_ble_eq_true rfl) dX1_init_8 (fun q1 H hqq1 h9 => ?_)
  obtain ⟨S1, hS1, hh⟩ : ∃ z, z = nw S 6 256 q1 ∧ Hx D cs lo s z H _ := ⟨_, rfl, h9⟩
  clear h9
  replace h := hh
  clear hh
  replace hw := hw q1 hqq1 S1 hS1
  obtain ⟨hok, hw⟩ := hw
  refine q_putRF B h (ci := 1) (j := 0) (code := 32) (v := (some q1)) rfl inT_1 tyX1 tyX1_ok nmX1 (by decide) kF_RX1_9 rfl rfl (hin.trans rfl) rfl rfl rfl (by decide) rfl rfl dX1_init_10 hok.1 hok.2 (fun H locs h9 => ?_)
  obtain ⟨S2, hS2, hh⟩ : ∃ z, z = sR S1 32 a0 (some q1) ∧ Hx D cs lo s z H _ := ⟨_, rfl, h9⟩
  clear h9
  replace h := hh
  clear hh
  replace hw := hw S2 hS2
  exact q_vret B hr hlk h hw dX1_init_13 (Nat.le_of_ble_eq_true rfl) (Nat.le_of_ble_eq_true rfl)
set_option maxHeartbeats 4000000 in
set_option maxRecDepth 100000 in
theorem met_X2_init (l : Launch) (a0 : Nat) : MV l yX2_init cX2_init 1 none 1 12 2 16 [.ref a0] (wX2_init a0) := by
  refine MV.of (by decide) (Nat.le_of_ble_eq_true rfl) ?_
  intro p e s m below meth c D cs lo S Q ls B hr hlk hin
  intro h hl hw
  replace hl : lv_has ls 1 [(0, .ref a0)] := hl
  refine lv_aload_n B.1.1 B.1.2.1 dX2_init_0 rfl (lv_at hl 0 rfl) ?_
  refine q_objInit B kM_RX2_3 kO_objinit kC_objinit hl.1 dX2_init_1 (Nat.le_of_ble_eq_true rfl) (Nat.le_of_ble_eq_true rfl) ?_
  refine lv_aload_n B.1.1 B.1.2.1 dX2_init_4 rfl (lv_at hl 0 rfl) ?_
  refine lv_bipush (v := (100 : Int32)) B.1.1 B.1.2.1 dX2_init_5 (by decide) ?_
  obtain ⟨hok, hw⟩ := hw
  refine q_putI B h (ci := 2) (j := 0) (code := 64) (v := (100 : Int32)) rfl inT_2 tyX2 tyX2_ok nmX2 (by decide) kF_RX2_9 rfl rfl rfl rfl (by decide) (by first | rfl | decide) (by first | rfl | decide) dX2_init_7 hok.1 hok.2 (fun H locs h9 => ?_)
  obtain ⟨S1, hS1, hh⟩ : ∃ z, z = sI S 64 a0 (100 : Int32) ∧ Hx D cs lo s z H _ := ⟨_, rfl, h9⟩
  clear h9
  replace h := hh
  clear hh
  replace hw := hw S1 hS1
  refine lv_aload_n B.1.1 B.1.2.1 dX2_init_10 rfl (lv_at hl 0 rfl) ?_
  refine lv_bipush (v := (100 : Int32)) B.1.1 B.1.2.1 dX2_init_11 (by decide) ?_
  obtain ⟨hok, hw⟩ := hw
  refine q_putI B h (ci := 2) (j := 1) (code := 65) (v := (100 : Int32)) rfl inT_2 tyX2 tyX2_ok nmX2 (by decide) kF_RX2_15 rfl rfl rfl rfl (by decide) (by first | rfl | decide) (by first | rfl | decide) dX2_init_13 hok.1 hok.2 (fun H locs h9 => ?_)
  obtain ⟨S2, hS2, hh⟩ : ∃ z, z = sI S1 65 a0 (100 : Int32) ∧ Hx D cs lo s z H _ := ⟨_, rfl, h9⟩
  clear h9
  replace h := hh
  clear hh
  replace hw := hw S2 hS2
  refine lv_aload_n B.1.1 B.1.2.1 dX2_init_16 rfl (lv_at hl 0 rfl) ?_
  refine lv_bipush (v := (8 : Int32)) B.1.1 B.1.2.1 dX2_init_17 (by decide) ?_
  refine q_newz B h (N' := 8) kA_boolean (by decide) (by decide) (Nat.le_of_ble_eq_true rfl) (Nat.le_of_ble_eq_true rfl) (Nat.le_of_ble_eq_true rfl) dX2_init_19 (fun q1 H hqq1 h9 => ?_)
  obtain ⟨S3, hS3, hh⟩ : ∃ z, z = nw S2 7 8 q1 ∧ Hx D cs lo s z H _ := ⟨_, rfl, h9⟩
  clear h9
  replace h := hh
  clear hh
  replace hw := hw q1 hqq1 S3 hS3
  obtain ⟨hok, hw⟩ := hw
  refine q_putRF B h (ci := 2) (j := 2) (code := 66) (v := (some q1)) rfl inT_2 tyX2 tyX2_ok nmX2 (by decide) kF_RX2_18 rfl rfl (hin.trans rfl) rfl rfl rfl (by decide) rfl rfl dX2_init_21 hok.1 hok.2 (fun H locs h9 => ?_)
  obtain ⟨S4, hS4, hh⟩ : ∃ z, z = sR S3 66 a0 (some q1) ∧ Hx D cs lo s z H _ := ⟨_, rfl, h9⟩
  clear h9
  replace h := hh
  clear hh
  replace hw := hw S4 hS4
  refine lv_aload_n B.1.1 B.1.2.1 dX2_init_24 rfl (lv_at hl 0 rfl) ?_
  refine lv_bipush (v := (8 : Int32)) B.1.1 B.1.2.1 dX2_init_25 (by decide) ?_
  refine q_newi B h (N' := 8) kA_int (by decide) (by decide) (Nat.le_of_ble_eq_true rfl) (Nat.le_of_ble_eq_true rfl) (Nat.le_of_ble_eq_true rfl) dX2_init_27 (fun q2 H hqq2 h9 => ?_)
  obtain ⟨S5, hS5, hh⟩ : ∃ z, z = nw S4 6 8 q2 ∧ Hx D cs lo s z H _ := ⟨_, rfl, h9⟩
  clear h9
  replace h := hh
  clear hh
  replace hw := hw q2 hqq2 S5 hS5
  obtain ⟨hok, hw⟩ := hw
  refine q_putRF B h (ci := 2) (j := 3) (code := 67) (v := (some q2)) rfl inT_2 tyX2 tyX2_ok nmX2 (by decide) kF_RX2_22 rfl rfl (hin.trans rfl) rfl rfl rfl (by decide) rfl rfl dX2_init_29 hok.1 hok.2 (fun H locs h9 => ?_)
  obtain ⟨S6, hS6, hh⟩ : ∃ z, z = sR S5 67 a0 (some q2) ∧ Hx D cs lo s z H _ := ⟨_, rfl, h9⟩
  clear h9
  replace h := hh
  clear hh
  replace hw := hw S6 hS6
  refine lv_aload_n B.1.1 B.1.2.1 dX2_init_32 rfl (lv_at hl 0 rfl) ?_
  refine lv_iconst (v := (0 : Int32)) B.1.1 B.1.2.1 dX2_init_33 (by decide) ?_
  obtain ⟨hok, hw⟩ := hw
  refine q_putI B h (ci := 2) (j := 4) (code := 68) (v := (0 : Int32)) rfl inT_2 tyX2 tyX2_ok nmX2 (by decide) kF_RX2_26 rfl rfl rfl rfl (by decide) (by first | rfl | decide) (by first | rfl | decide) dX2_init_34 hok.1 hok.2 (fun H locs h9 => ?_)
  obtain ⟨S7, hS7, hh⟩ : ∃ z, z = sI S6 68 a0 (0 : Int32) ∧ Hx D cs lo s z H _ := ⟨_, rfl, h9⟩
  clear h9
  replace h := hh
  clear hh
  replace hw := hw S7 hS7
  refine lv_aload_n B.1.1 B.1.2.1 dX2_init_37 rfl (lv_at hl 0 rfl) ?_
  refine lv_iconst (v := (0 : Int32)) B.1.1 B.1.2.1 dX2_init_38 (by decide) ?_
  obtain ⟨hok, hw⟩ := hw
  refine q_putI B h (ci := 2) (j := 5) (code := 69) (v := (0 : Int32)) rfl inT_2 tyX2 tyX2_ok nmX2 (by decide) kF_RX2_29 rfl rfl rfl rfl (by decide) (by first | rfl | decide) (by first | rfl | decide) dX2_init_39 hok.1 hok.2 (fun H locs h9 => ?_)
  obtain ⟨S8, hS8, hh⟩ : ∃ z, z = sI S7 69 a0 (0 : Int32) ∧ Hx D cs lo s z H _ := ⟨_, rfl, h9⟩
  clear h9
  replace h := hh
  clear hh
  replace hw := hw S8 hS8
  refine lv_aload_n B.1.1 B.1.2.1 dX2_init_42 rfl (lv_at hl 0 rfl) ?_
  refine lv_null B.1.1 B.1.2.1 dX2_init_43 ?_
  obtain ⟨hok, hw⟩ := hw
  refine q_putR B h (ci := 2) (j := 6) (code := 70) (v := none) rfl inT_2 tyX2 tyX2_ok nmX2 (by decide) kF_RX2_32 rfl rfl rfl rfl (by decide) rfl rfl dX2_init_44 hok.1 hok.2 (fun H locs h9 => ?_)
  obtain ⟨S9, hS9, hh⟩ : ∃ z, z = sR S8 70 a0 none ∧ Hx D cs lo s z H _ := ⟨_, rfl, h9⟩
  clear h9
  replace h := hh
  clear hh
  replace hw := hw S9 hS9
  refine lv_aload_n B.1.1 B.1.2.1 dX2_init_47 rfl (lv_at hl 0 rfl) ?_
  refine lv_null B.1.1 B.1.2.1 dX2_init_48 ?_
  obtain ⟨hok, hw⟩ := hw
  refine q_putR B h (ci := 2) (j := 7) (code := 71) (v := none) rfl inT_2 tyX2 tyX2_ok nmX2 (by decide) kF_RX2_36 rfl rfl rfl rfl (by decide) rfl rfl dX2_init_49 hok.1 hok.2 (fun H locs h9 => ?_)
  obtain ⟨S10, hS10, hh⟩ : ∃ z, z = sR S9 71 a0 none ∧ Hx D cs lo s z H _ := ⟨_, rfl, h9⟩
  clear h9
  replace h := hh
  clear hh
  replace hw := hw S10 hS10
  refine lv_aload_n B.1.1 B.1.2.1 dX2_init_52 rfl (lv_at hl 0 rfl) ?_
  refine lv_iconst (v := (-1 : Int32)) B.1.1 B.1.2.1 dX2_init_53 (by decide) ?_
  obtain ⟨hok, hw⟩ := hw
  refine q_putI B h (ci := 2) (j := 8) (code := 72) (v := (-1 : Int32)) rfl inT_2 tyX2 tyX2_ok nmX2 (by decide) kF_RX2_40 rfl rfl rfl rfl (by decide) (by first | rfl | decide) (by first | rfl | decide) dX2_init_54 hok.1 hok.2 (fun H locs h9 => ?_)
  obtain ⟨S11, hS11, hh⟩ : ∃ z, z = sI S10 72 a0 (-1 : Int32) ∧ Hx D cs lo s z H _ := ⟨_, rfl, h9⟩
  clear h9
  replace h := hh
  clear hh
  replace hw := hw S11 hS11
  refine lv_aload_n B.1.1 B.1.2.1 dX2_init_57 rfl (lv_at hl 0 rfl) ?_
  refine lv_iconst (v := (0 : Int32)) B.1.1 B.1.2.1 dX2_init_58 (by decide) ?_
  obtain ⟨hok, hw⟩ := hw
  refine q_putI B h (ci := 2) (j := 9) (code := 73) (v := (0 : Int32)) rfl inT_2 tyX2 tyX2_ok nmX2 (by decide) kF_RX2_43 rfl rfl rfl rfl (by decide) (by first | rfl | decide) (by first | rfl | decide) dX2_init_59 hok.1 hok.2 (fun H locs h9 => ?_)
  obtain ⟨S12, hS12, hh⟩ : ∃ z, z = sI S11 73 a0 (0 : Int32) ∧ Hx D cs lo s z H _ := ⟨_, rfl, h9⟩
  clear h9
  replace h := hh
  clear hh
  replace hw := hw S12 hS12
  exact q_vret B hr hlk h hw dX2_init_62 (Nat.le_of_ble_eq_true rfl) (Nat.le_of_ble_eq_true rfl)
set_option maxHeartbeats 4000000 in
set_option maxRecDepth 100000 in
theorem met_X3_init (l : Launch) (a0 : Nat) (x1 : Int32) (x2 : Int32) (x3 : Int32) (x4 : Int32) (x5 : Int32) : MV l yX3_init cX3_init 6 none 2 32 2 257 [.ref a0, .int x1, .int x2, .int x3, .int x4, .int x5] (wX3_init a0 x1 x2 x3 x4 x5) := by
  refine MV.of (by decide) (Nat.le_of_ble_eq_true rfl) ?_
  intro p e s m below meth c D cs lo S Q ls B hr hlk hin
  intro h hl hw
  replace hl : lv_has ls 6 [(0, .ref a0), (1, .int x1), (2, .int x2), (3, .int x3), (4, .int x4), (5, .int x5)] := hl
  refine lv_aload_n B.1.1 B.1.2.1 dX3_init_0 rfl (lv_at hl 0 rfl) ?_
  refine q_objInit B kM_RX3_3 kO_objinit kC_objinit hl.1 dX3_init_1 (Nat.le_of_ble_eq_true rfl) (Nat.le_of_ble_eq_true rfl) ?_
  refine lv_aload_n B.1.1 B.1.2.1 dX3_init_4 rfl (lv_at hl 0 rfl) ?_
  refine q_new B h (ci := 1) rfl inT_1 tyX1 tyX1_ok kL_RX3_9 kN_1 kI_RX1 (by decide) hfs_1 (Nat.le_of_ble_eq_true rfl) (Nat.le_of_ble_eq_true rfl) dX3_init_5 (fun q1 H hqq1 h9 => ?_)
  obtain ⟨S1, hS1, hh⟩ : ∃ z, z = nw S 1 0 q1 ∧ Hx D cs lo s z H _ := ⟨_, rfl, h9⟩
  clear h9
  replace h := hh
  clear hh
  replace hw := hw q1 hqq1 S1 hS1
  refine lv_dup B.1.1 B.1.2.1 dX3_init_8 rfl ?_
  refine q_callVIN B h (met_X1_init l q1) (CN B 0 kC_X1_init kI_RX1 kM_RX3_11 hd_X1_init ⟨Nat.le_of_ble_eq_true rfl, Nat.le_of_ble_eq_true rfl⟩) rfl kO_X1_init (rest := [.ref q1, .ref a0]) rfl rfl hl.1 (Nat.le_of_ble_eq_true rfl) dX3_init_9 ⟨Nat.le_of_ble_eq_true rfl, Nat.le_of_ble_eq_true rfl⟩ hw (fun S2 H locs hw9 h9 => ?_)
  replace hw := hw9
  clear hw9
  replace h := h9
  clear h9
  obtain ⟨hok, hw⟩ := hw
  refine q_putRF B h (ci := 3) (j := 5) (code := 101) (v := (some q1)) rfl inT_3 tyX3 tyX3_ok nmX3 (by decide) kF_RX3_12 rfl rfl (hin.trans rfl) rfl rfl rfl (by decide) rfl rfl dX3_init_12 hok.1 hok.2 (fun H locs h9 => ?_)
  obtain ⟨S3, hS3, hh⟩ : ∃ z, z = sR S2 101 a0 (some q1) ∧ Hx D cs lo s z H _ := ⟨_, rfl, h9⟩
  clear h9
  replace h := hh
  clear hh
  replace hw := hw S3 hS3
  refine lv_aload_n B.1.1 B.1.2.1 dX3_init_15 rfl (lv_at hl 0 rfl) ?_
  refine lv_iconst (v := (-1 : Int32)) B.1.1 B.1.2.1 dX3_init_16 (by decide) ?_
  obtain ⟨hok, hw⟩ := hw
  refine q_putI B h (ci := 3) (j := 6) (code := 102) (v := (-1 : Int32)) rfl inT_3 tyX3 tyX3_ok nmX3 (by decide) kF_RX3_18 rfl rfl rfl rfl (by decide) (by first | rfl | decide) (by first | rfl | decide) dX3_init_17 hok.1 hok.2 (fun H locs h9 => ?_)
  obtain ⟨S4, hS4, hh⟩ : ∃ z, z = sI S3 102 a0 (-1 : Int32) ∧ Hx D cs lo s z H _ := ⟨_, rfl, h9⟩
  clear h9
  replace h := hh
  clear hh
  replace hw := hw S4 hS4
  refine lv_aload_n B.1.1 B.1.2.1 dX3_init_20 rfl (lv_at hl 0 rfl) ?_
  refine lv_iconst (v := (0 : Int32)) B.1.1 B.1.2.1 dX3_init_21 (by decide) ?_
  obtain ⟨hok, hw⟩ := hw
  refine q_putI B h (ci := 3) (j := 7) (code := 103) (v := (0 : Int32)) rfl inT_3 tyX3 tyX3_ok nmX3 (by decide) kF_RX3_22 rfl rfl rfl rfl (by decide) (by first | rfl | decide) (by first | rfl | decide) dX3_init_22 hok.1 hok.2 (fun H locs h9 => ?_)
  obtain ⟨S5, hS5, hh⟩ : ∃ z, z = sI S4 103 a0 (0 : Int32) ∧ Hx D cs lo s z H _ := ⟨_, rfl, h9⟩
  clear h9
  replace h := hh
  clear hh
  replace hw := hw S5 hS5
  refine lv_aload_n B.1.1 B.1.2.1 dX3_init_25 rfl (lv_at hl 0 rfl) ?_
  refine lv_iconst (v := (-1 : Int32)) B.1.1 B.1.2.1 dX3_init_26 (by decide) ?_
  obtain ⟨hok, hw⟩ := hw
  refine q_putI B h (ci := 3) (j := 8) (code := 104) (v := (-1 : Int32)) rfl inT_3 tyX3 tyX3_ok nmX3 (by decide) kF_RX3_26 rfl rfl rfl rfl (by decide) (by first | rfl | decide) (by first | rfl | decide) dX3_init_27 hok.1 hok.2 (fun H locs h9 => ?_)
  obtain ⟨S6, hS6, hh⟩ : ∃ z, z = sI S5 104 a0 (-1 : Int32) ∧ Hx D cs lo s z H _ := ⟨_, rfl, h9⟩
  clear h9
  replace h := hh
  clear hh
  replace hw := hw S6 hS6
  refine lv_aload_n B.1.1 B.1.2.1 dX3_init_30 rfl (lv_at hl 0 rfl) ?_
  refine lv_iload_n B.1.1 B.1.2.1 dX3_init_31 rfl (lv_at hl 1 rfl) ?_
  obtain ⟨hok, hw⟩ := hw
  refine q_putIF B h (ci := 3) (j := 0) (code := 96) (v := x1) rfl inT_3 tyX3 tyX3_ok nmX3 (by decide) kF_RX3_29 rfl rfl (hin.trans rfl) rfl rfl rfl (by decide) (by first | rfl | decide) (by first | rfl | decide) dX3_init_32 hok.1 hok.2 (fun H locs h9 => ?_)
  obtain ⟨S7, hS7, hh⟩ : ∃ z, z = sI S6 96 a0 x1 ∧ Hx D cs lo s z H _ := ⟨_, rfl, h9⟩
  clear h9
  replace h := hh
  clear hh
  replace hw := hw S7 hS7
  refine lv_aload_n B.1.1 B.1.2.1 dX3_init_35 rfl (lv_at hl 0 rfl) ?_
  refine lv_iload_n B.1.1 B.1.2.1 dX3_init_36 rfl (lv_at hl 2 rfl) ?_
  obtain ⟨hok, hw⟩ := hw
  refine q_putIF B h (ci := 3) (j := 1) (code := 97) (v := x2) rfl inT_3 tyX3 tyX3_ok nmX3 (by decide) kF_RX3_32 rfl rfl (hin.trans rfl) rfl rfl rfl (by decide) (by first | rfl | decide) (by first | rfl | decide) dX3_init_37 hok.1 hok.2 (fun H locs h9 => ?_)
  obtain ⟨S8, hS8, hh⟩ : ∃ z, z = sI S7 97 a0 x2 ∧ Hx D cs lo s z H _ := ⟨_, rfl, h9⟩
  clear h9
  replace h := hh
  clear hh
  replace hw := hw S8 hS8
  refine lv_aload_n B.1.1 B.1.2.1 dX3_init_40 rfl (lv_at hl 0 rfl) ?_
  refine lv_iload_n B.1.1 B.1.2.1 dX3_init_41 rfl (lv_at hl 3 rfl) ?_
  obtain ⟨hok, hw⟩ := hw
  refine q_putIF B h (ci := 3) (j := 2) (code := 98) (v := x3) rfl inT_3 tyX3 tyX3_ok nmX3 (by decide) kF_RX3_35 rfl rfl (hin.trans rfl) rfl rfl rfl (by decide) (by first | rfl | decide) (by first | rfl | decide) dX3_init_42 hok.1 hok.2 (fun H locs h9 => ?_)
  obtain ⟨S9, hS9, hh⟩ : ∃ z, z = sI S8 98 a0 x3 ∧ Hx D cs lo s z H _ := ⟨_, rfl, h9⟩
  clear h9
  replace h := hh
  clear hh
  replace hw := hw S9 hS9
  refine lv_aload_n B.1.1 B.1.2.1 dX3_init_45 rfl (lv_at hl 0 rfl) ?_
  refine lv_iload B.1.1 B.1.2.1 dX3_init_46 (lv_at hl 4 rfl) ?_
  obtain ⟨hok, hw⟩ := hw
  refine q_putIF B h (ci := 3) (j := 3) (code := 99) (v := x4) rfl inT_3 tyX3 tyX3_ok nmX3 (by decide) kF_RX3_38 rfl rfl (hin.trans rfl) rfl rfl rfl (by decide) (by first | rfl | decide) (by first | rfl | decide) dX3_init_48 hok.1 hok.2 (fun H locs h9 => ?_)
  obtain ⟨S10, hS10, hh⟩ : ∃ z, z = sI S9 99 a0 x4 ∧ Hx D cs lo s z H _ := ⟨_, rfl, h9⟩
  clear h9
  replace h := hh
  clear hh
  replace hw := hw S10 hS10
  refine lv_aload_n B.1.1 B.1.2.1 dX3_init_51 rfl (lv_at hl 0 rfl) ?_
  refine lv_iload B.1.1 B.1.2.1 dX3_init_52 (lv_at hl 5 rfl) ?_
  obtain ⟨hok, hw⟩ := hw
  refine q_putIF B h (ci := 3) (j := 4) (code := 100) (v := x5) rfl inT_3 tyX3 tyX3_ok nmX3 (by decide) kF_RX3_41 rfl rfl (hin.trans rfl) rfl rfl rfl (by decide) (by first | rfl | decide) (by first | rfl | decide) dX3_init_54 hok.1 hok.2 (fun H locs h9 => ?_)
  obtain ⟨S11, hS11, hh⟩ : ∃ z, z = sI S10 100 a0 x5 ∧ Hx D cs lo s z H _ := ⟨_, rfl, h9⟩
  clear h9
  replace h := hh
  clear hh
  replace hw := hw S11 hS11
  exact q_vret B hr hlk h hw dX3_init_57 (Nat.le_of_ble_eq_true rfl) (Nat.le_of_ble_eq_true rfl)
set_option maxHeartbeats 4000000 in
set_option maxRecDepth 100000 in
theorem met_X0_init (l : Launch) (a0 : Nat) (x1 : Int32) (x2 : Int32) (x3 : Int32) (x4 : Int32) (x5 : Int32) : MV l yX0_init cX0_init 12 none 3 57 56 5052 [.ref a0, .int x1, .int x2, .int x3, .int x4, .int x5] (wX0_init a0 x1 x2 x3 x4 x5) := by
  refine MV.of (by decide) (Nat.le_of_ble_eq_true rfl) ?_
  intro p e s m below meth c D cs lo S Q ls B hr hlk hin
  have L68 : ∀ (c0 : Nat) (c1 : Int32) (c2 : Int32) (c3 : Int32) (c6 : Int32) (K : Int32 → Int32 → HS → Prop) (n : Nat) (m7 : Int32) (m8 : Int32) (S : HS) (H : Heap) (locs : List Loc) (ls : Array Slot) (cells slots : Nat), cells + n * 3 ≤ 56 → slots + n * 266 ≤ 5052 → Hx D cs lo s S H locs → lv_has ls 12 [(0, .ref c0), (1, .int c1), (2, .int c2), (3, .int c3), (6, .int c6), (7, .int m7), (8, .int m8)] → wX0_init_L68 c0 c1 c2 c3 c6 n m7 m8 S K → (∀ (m7 : Int32) (m8 : Int32) (S : HS) (H : Heap) (locs : List Loc) (ls : Array Slot) (cells slots : Nat), cells ≤ 56 → slots ≤ 5052 → Hx D cs lo s S H locs → lv_has ls 12 [(0, .ref c0), (1, .int c1), (2, .int c2), (3, .int c3), (6, .int c6), (7, .int m7), (8, .int m8)] → K m7 m8 S → W p l e ({ frames := 3, cells := 56, slots := 5052, locals := 57 } : Room) s m [.ref a0, .int x1, .int x2, .int x3, .int x4, .int x5].toArray below meth c H locs cells slots (MQ below (va_Qv Q (fun S' t => hp D cs lo S' t.heap) (fun q => lo ≤ q)) [.ref a0, .int x1, .int x2, .int x3, .int x4, .int x5].toArray s 56 5052 (fun q => lo ≤ q)) (F0 m 165 ls [])) → W p l e ({ frames := 3, cells := 56, slots := 5052, locals := 57 } : Room) s m [.ref a0, .int x1, .int x2, .int x3, .int x4, .int x5].toArray below meth c H locs cells slots (MQ below (va_Qv Q (fun S' t => hp D cs lo S' t.heap) (fun q => lo ≤ q)) [.ref a0, .int x1, .int x2, .int x3, .int x4, .int x5].toArray s 56 5052 (fun q => lo ≤ q)) (F0 m 68 ls []) := by
    intro c0 c1 c2 c3 c6 K n
    induction n with
    | zero => intro m7 m8 S H locs ls cells slots hcc hss h hl hw hk; exact False.elim hw
    | succ n ih =>
      intro m7 m8 S H locs ls cells slots hcc hss h hl hw hk
      refine lv_iload B.1.1 B.1.2.1 dX0_init_68 (lv_at hl 6 rfl) ?_
      refine lv_iload_n B.1.1 B.1.2.1 dX0_init_70 rfl (lv_at hl 1 rfl) ?_
      refine lv_icmp_ge (tgt := 165) B.1.1 B.1.2.1 dX0_init_71 (by decide) (fun hc => ?_) (fun hc => ?_)
      · replace hw := hw.1 hc
        exact hk m7 m8 _ _ _ ls _ _ (by omega) (by omega) h (lv_sub hl [0, 1, 2, 3, 4, 5, 6] rfl) hw
      · replace hw := hw.2 hc
        refine lv_iload B.1.1 B.1.2.1 dX0_init_74 (lv_at hl 5 rfl) ?_
        refine lv_aload_n B.1.1 B.1.2.1 dX0_init_76 rfl (lv_at hl 0 rfl) ?_
        obtain ⟨hok, hw⟩ := hw
        refine q_getR B h (ci := 0) (j := 5) (code := 5) rfl inT_0 (by decide) kF_RX0_23 rfl rfl rfl (by decide) dX0_init_77 hok.1 hok.2 ?_
        obtain ⟨o1, hoo1⟩ : ∃ z, z = gR S 5 c0 := ⟨_, rfl⟩
        rw [← hoo1]
        replace hw := hw o1 hoo1
        obtain ⟨q4, hn, hw⟩ := hw
        subst hn
        replace hl : lv_has ls 12 [(0, .ref c0), (1, .int c1), (2, .int c2), (3, .int c3), (6, .int c6), (7, .int m7), (8, .int m8)] := hl
        obtain ⟨hok, hw⟩ := hw
        refine q_alen B h dX0_init_80 hok.1 (by rw [hok.2]; decide) (by rw [hok.2]; decide) ?_
        refine lv_icmp_ge (tgt := 165) B.1.1 B.1.2.1 dX0_init_81 (by decide) (fun hc => ?_) (fun hc => ?_)
        · replace hw := hw.1 hc
          exact hk m7 m8 _ _ _ ls _ _ (by omega) (by omega) h (lv_sub hl [0, 1, 2, 3, 4, 5, 6] rfl) hw
        · replace hw := hw.2 hc
          refine lv_iload B.1.1 B.1.2.1 dX0_init_84 (lv_at hl 5 rfl) ?_
          refine lv_iload B.1.1 B.1.2.1 dX0_init_86 (lv_at hl 4 rfl) ?_
          refine lv_imul B.1.1 B.1.2.1 dX0_init_88 ?_
          refine lv_istore (i := 9) (lv' := [(9, .int (m7 * c6)), (0, .ref c0), (1, .int c1), (2, .int c2), (3, .int c3), (6, .int c6), (7, .int m7), (8, .int m8)]) B.1.1 B.1.2.1 dX0_init_89 hl (by decide) rfl (fun ls hl9 => ?_)
          replace hl := hl9
          clear hl9
          refine lv_iload B.1.1 B.1.2.1 dX0_init_91 (lv_at hl 0 rfl) ?_
          refine lv_iload_n B.1.1 B.1.2.1 dX0_init_93 rfl (lv_at hl 3 rfl) ?_
          refine lv_iadd B.1.1 B.1.2.1 dX0_init_94 ?_
          refine lv_iload_n B.1.1 B.1.2.1 dX0_init_95 rfl (lv_at hl 2 rfl) ?_
          refine q_min B kM_RX0_40 kS_math_min kI_java_lang_Math kC_math_min hl.1 (Nat.le_of_ble_eq_true rfl) (Nat.le_of_ble_eq_true rfl) ((by show _ ≤ 56; omega)) ((by show _ ≤ 5052; omega)) dX0_init_96 ?_
          refine lv_istore (i := 8) (lv' := [(8, .int (if c1 < ((m7 * c6) + c2) then c1 else ((m7 * c6) + c2))), (9, .int (m7 * c6)), (0, .ref c0), (1, .int c1), (2, .int c2), (3, .int c3), (6, .int c6), (7, .int m7)]) B.1.1 B.1.2.1 dX0_init_99 hl (by decide) rfl (fun ls hl9 => ?_)
          replace hl := hl9
          clear hl9
          refine lv_iload B.1.1 B.1.2.1 dX0_init_101 (lv_at hl 7 rfl) ?_
          refine lv_if_ne (tgt := 111) B.1.1 B.1.2.1 dX0_init_103 (by decide) (fun hc => ?_) (fun hc => ?_)
          · replace hw := hw.1 hc
            refine lv_iload B.1.1 B.1.2.1 dX0_init_111 (lv_at hl 1 rfl) ?_
            refine lv_iload_n B.1.1 B.1.2.1 dX0_init_113 rfl (lv_at hl 5 rfl) ?_
            refine lv_iadd B.1.1 B.1.2.1 dX0_init_114 ?_
            refine lv_istore (i := 10) (lv' := [(10, .int ((m7 * c6) + c3)), (8, .int (if c1 < ((m7 * c6) + c2) then c1 else ((m7 * c6) + c2))), (9, .int (m7 * c6)), (0, .ref c0), (1, .int c1), (2, .int c2), (3, .int c3), (6, .int c6), (7, .int m7)]) B.1.1 B.1.2.1 dX0_init_115 hl (by decide) rfl (fun ls hl9 => ?_)
            replace hl := hl9
            clear hl9
            refine lv_iload B.1.1 B.1.2.1 dX0_init_117 (lv_at hl 1 rfl) ?_
            refine lv_iload_n B.1.1 B.1.2.1 dX0_init_119 rfl (lv_at hl 4 rfl) ?_
            refine lv_icmp_ne (tgt := 128) B.1.1 B.1.2.1 dX0_init_120 (by decide) (fun hc => ?_) (fun hc => ?_)
            · replace hw := hw.1 hc
              refine lv_iload B.1.1 B.1.2.1 dX0_init_128 (lv_at hl 2 rfl) ?_
              refine lv_iload B.1.1 B.1.2.1 dX0_init_130 (lv_at hl 7 rfl) ?_
              refine lv_iadd B.1.1 B.1.2.1 dX0_init_132 ?_
              refine lv_istore (i := 11) (lv' := [(11, .int ((m7 * c6) + c6)), (10, .int ((m7 * c6) + c3)), (8, .int (if c1 < ((m7 * c6) + c2) then c1 else ((m7 * c6) + c2))), (9, .int (m7 * c6)), (0, .ref c0), (1, .int c1), (2, .int c2), (3, .int c3), (6, .int c6), (7, .int m7)]) B.1.1 B.1.2.1 dX0_init_133 hl (by decide) rfl (fun ls hl9 => ?_)
              replace hl := hl9
              clear hl9
              refine lv_aload_n B.1.1 B.1.2.1 dX0_init_135 rfl (lv_at hl 4 rfl) ?_
              obtain ⟨hok, hw⟩ := hw
              refine q_getR B h (ci := 0) (j := 5) (code := 5) rfl inT_0 (by decide) kF_RX0_23 rfl rfl rfl (by decide) dX0_init_136 hok.1 hok.2 ?_
              obtain ⟨o2, hoo2⟩ : ∃ z, z = gR S 5 c0 := ⟨_, rfl⟩
              rw [← hoo2]
              replace hw := hw o2 hoo2
              refine lv_iload B.1.1 B.1.2.1 dX0_init_139 (lv_at hl 9 rfl) ?_
              refine q_new B h (ci := 3) rfl inT_3 tyX3 tyX3_ok kL_RX0_21 kN_3 kI_RX3 (by decide) hfs_3 ((by show _ ≤ 56; omega)) ((by show _ ≤ 5052; omega)) dX0_init_141 (fun q5 H hqq5 h9 => ?_)
              obtain ⟨S13, hS13, hh⟩ : ∃ z, z = nw S 3 0 q5 ∧ Hx D cs lo s z H _ := ⟨_, rfl, h9⟩
              clear h9
              replace h := hh
              clear hh
              replace hw := hw q5 hqq5 S13 hS13
              refine lv_dup B.1.1 B.1.2.1 dX0_init_144 rfl ?_
              refine lv_iload B.1.1 B.1.2.1 dX0_init_145 (lv_at hl 9 rfl) ?_
              refine lv_iload B.1.1 B.1.2.1 dX0_init_147 (lv_at hl 3 rfl) ?_
              refine lv_iload B.1.1 B.1.2.1 dX0_init_149 (lv_at hl 2 rfl) ?_
              refine lv_iload B.1.1 B.1.2.1 dX0_init_151 (lv_at hl 1 rfl) ?_
              refine lv_iload B.1.1 B.1.2.1 dX0_init_153 (lv_at hl 0 rfl) ?_
              refine q_callVI B h (met_X3_init l q5 m7 (m7 * c6) (if c1 < ((m7 * c6) + c2) then c1 else ((m7 * c6) + c2)) ((m7 * c6) + c3) ((m7 * c6) + c6)) (CB B 5 kC_X3_init kI_RX3 kM_RX0_46 hd_X3_init ⟨Nat.le_of_ble_eq_true rfl, Nat.le_of_ble_eq_true rfl⟩) rfl kO_X3_init (rest := [.ref q5, .int m7, va_rf o2]) rfl rfl hl.1 (by simp [rf_cat, cat_i, cat_r, cat_n, cat_j, cat_f, cat_d]) dX0_init_155 ⟨(by show _ ≤ 56; omega), (by show _ ≤ 5052; omega)⟩ hw (fun S14 H locs hw9 h9 => ?_)
              replace hw := hw9
              clear hw9
              replace h := h9
              clear h9
              obtain ⟨q6, hn, hw⟩ := hw
              subst hn
              replace hl : lv_has ls 12 [(11, .int ((m7 * c6) + c6)), (10, .int ((m7 * c6) + c3)), (8, .int (if c1 < ((m7 * c6) + c2) then c1 else ((m7 * c6) + c2))), (9, .int (m7 * c6)), (0, .ref c0), (1, .int c1), (2, .int c2), (3, .int c3), (6, .int c6), (7, .int m7)] := hl
              obtain ⟨hok, hin9, hw⟩ := hw
              obtain ⟨hokv, hw⟩ := hw
              refine q_aast B h (kd := 10) (ci := 3) (by decide) (by decide) (by decide) rfl rfl dX0_init_158 hok.1 hok.2 hokv.1 hokv.2 hin9 (fun H locs h9 => ?_)
              obtain ⟨S15, hS15, hh⟩ : ∃ z, z = sQ S14 q6 m7.toNatClampNeg (some q5) ∧ Hx D cs lo s z H _ := ⟨_, rfl, h9⟩
              clear h9
              replace h := hh
              clear hh
              replace hw := hw S15 hS15
              refine lv_iinc (i := 7) (v := (m7 + (1 : Int32))) (lv' := [(7, .int (m7 + (1 : Int32))), (11, .int ((m7 * c6) + c6)), (10, .int ((m7 * c6) + c3)), (8, .int (if c1 < ((m7 * c6) + c2) then c1 else ((m7 * c6) + c2))), (9, .int (m7 * c6)), (0, .ref c0), (1, .int c1), (2, .int c2), (3, .int c3), (6, .int c6)]) B.1.1 B.1.2.1 dX0_init_159 hl (k := 9) rfl rfl (by decide) rfl (fun ls hl9 => ?_)
              replace hl := hl9
              clear hl9
              refine lv_goto (tgt := 68) B.1.1 B.1.2.1 dX0_init_162 (by decide) ?_
              exact ih (m7 + (1 : Int32)) (if c1 < ((m7 * c6) + c2) then c1 else ((m7 * c6) + c2)) _ _ _ ls _ _ (by omega) (by omega) h (lv_sub hl [5, 6, 7, 8, 9, 0, 3] rfl) hw hk
            · replace hw := hw.2 hc
              refine lv_iload B.1.1 B.1.2.1 dX0_init_123 (lv_at hl 1 rfl) ?_
              refine lv_goto (tgt := 133) B.1.1 B.1.2.1 dX0_init_125 (by decide) ?_
              refine lv_istore (i := 11) (lv' := [(11, .int (if c1 < ((m7 * c6) + c2) then c1 else ((m7 * c6) + c2))), (10, .int ((m7 * c6) + c3)), (8, .int (if c1 < ((m7 * c6) + c2) then c1 else ((m7 * c6) + c2))), (9, .int (m7 * c6)), (0, .ref c0), (1, .int c1), (2, .int c2), (3, .int c3), (6, .int c6), (7, .int m7)]) B.1.1 B.1.2.1 dX0_init_133 hl (by decide) rfl (fun ls hl9 => ?_)
              replace hl := hl9
              clear hl9
              refine lv_aload_n B.1.1 B.1.2.1 dX0_init_135 rfl (lv_at hl 4 rfl) ?_
              obtain ⟨hok, hw⟩ := hw
              refine q_getR B h (ci := 0) (j := 5) (code := 5) rfl inT_0 (by decide) kF_RX0_23 rfl rfl rfl (by decide) dX0_init_136 hok.1 hok.2 ?_
              obtain ⟨o3, hoo3⟩ : ∃ z, z = gR S 5 c0 := ⟨_, rfl⟩
              rw [← hoo3]
              replace hw := hw o3 hoo3
              refine lv_iload B.1.1 B.1.2.1 dX0_init_139 (lv_at hl 9 rfl) ?_
              refine q_new B h (ci := 3) rfl inT_3 tyX3 tyX3_ok kL_RX0_21 kN_3 kI_RX3 (by decide) hfs_3 ((by show _ ≤ 56; omega)) ((by show _ ≤ 5052; omega)) dX0_init_141 (fun q7 H hqq7 h9 => ?_)
              obtain ⟨S16, hS16, hh⟩ : ∃ z, z = nw S 3 0 q7 ∧ Hx D cs lo s z H _ := ⟨_, rfl, h9⟩
              clear h9
              replace h := hh
              clear hh
              replace hw := hw q7 hqq7 S16 hS16
              refine lv_dup B.1.1 B.1.2.1 dX0_init_144 rfl ?_
              refine lv_iload B.1.1 B.1.2.1 dX0_init_145 (lv_at hl 9 rfl) ?_
              refine lv_iload B.1.1 B.1.2.1 dX0_init_147 (lv_at hl 3 rfl) ?_
              refine lv_iload B.1.1 B.1.2.1 dX0_init_149 (lv_at hl 2 rfl) ?_
              refine lv_iload B.1.1 B.1.2.1 dX0_init_151 (lv_at hl 1 rfl) ?_
              refine lv_iload B.1.1 B.1.2.1 dX0_init_153 (lv_at hl 0 rfl) ?_
              refine q_callVI B h (met_X3_init l q7 m7 (m7 * c6) (if c1 < ((m7 * c6) + c2) then c1 else ((m7 * c6) + c2)) ((m7 * c6) + c3) (if c1 < ((m7 * c6) + c2) then c1 else ((m7 * c6) + c2))) (CB B 5 kC_X3_init kI_RX3 kM_RX0_46 hd_X3_init ⟨Nat.le_of_ble_eq_true rfl, Nat.le_of_ble_eq_true rfl⟩) rfl kO_X3_init (rest := [.ref q7, .int m7, va_rf o3]) rfl rfl hl.1 (by simp [rf_cat, cat_i, cat_r, cat_n, cat_j, cat_f, cat_d]) dX0_init_155 ⟨(by show _ ≤ 56; omega), (by show _ ≤ 5052; omega)⟩ hw (fun S17 H locs hw9 h9 => ?_)
              replace hw := hw9
              clear hw9
              replace h := h9
              clear h9
              obtain ⟨q8, hn, hw⟩ := hw
              subst hn
              replace hl : lv_has ls 12 [(11, .int (if c1 < ((m7 * c6) + c2) then c1 else ((m7 * c6) + c2))), (10, .int ((m7 * c6) + c3)), (8, .int (if c1 < ((m7 * c6) + c2) then c1 else ((m7 * c6) + c2))), (9, .int (m7 * c6)), (0, .ref c0), (1, .int c1), (2, .int c2), (3, .int c3), (6, .int c6), (7, .int m7)] := hl
              obtain ⟨hok, hin9, hw⟩ := hw
              obtain ⟨hokv, hw⟩ := hw
              refine q_aast B h (kd := 10) (ci := 3) (by decide) (by decide) (by decide) rfl rfl dX0_init_158 hok.1 hok.2 hokv.1 hokv.2 hin9 (fun H locs h9 => ?_)
              obtain ⟨S18, hS18, hh⟩ : ∃ z, z = sQ S17 q8 m7.toNatClampNeg (some q7) ∧ Hx D cs lo s z H _ := ⟨_, rfl, h9⟩
              clear h9
              replace h := hh
              clear hh
              replace hw := hw S18 hS18
              refine lv_iinc (i := 7) (v := (m7 + (1 : Int32))) (lv' := [(7, .int (m7 + (1 : Int32))), (11, .int (if c1 < ((m7 * c6) + c2) then c1 else ((m7 * c6) + c2))), (10, .int ((m7 * c6) + c3)), (8, .int (if c1 < ((m7 * c6) + c2) then c1 else ((m7 * c6) + c2))), (9, .int (m7 * c6)), (0, .ref c0), (1, .int c1), (2, .int c2), (3, .int c3), (6, .int c6)]) B.1.1 B.1.2.1 dX0_init_159 hl (k := 9) rfl rfl (by decide) rfl (fun ls hl9 => ?_)
              replace hl := hl9
              clear hl9
              refine lv_goto (tgt := 68) B.1.1 B.1.2.1 dX0_init_162 (by decide) ?_
              exact ih (m7 + (1 : Int32)) (if c1 < ((m7 * c6) + c2) then c1 else ((m7 * c6) + c2)) _ _ _ ls _ _ (by omega) (by omega) h (lv_sub hl [5, 6, 7, 8, 9, 0, 3] rfl) hw hk
          · replace hw := hw.2 hc
            refine lv_iload B.1.1 B.1.2.1 dX0_init_106 (lv_at hl 1 rfl) ?_
            refine lv_goto (tgt := 115) B.1.1 B.1.2.1 dX0_init_108 (by decide) ?_
            refine lv_istore (i := 10) (lv' := [(10, .int (m7 * c6)), (8, .int (if c1 < ((m7 * c6) + c2) then c1 else ((m7 * c6) + c2))), (9, .int (m7 * c6)), (0, .ref c0), (1, .int c1), (2, .int c2), (3, .int c3), (6, .int c6), (7, .int m7)]) B.1.1 B.1.2.1 dX0_init_115 hl (by decide) rfl (fun ls hl9 => ?_)
            replace hl := hl9
            clear hl9
            refine lv_iload B.1.1 B.1.2.1 dX0_init_117 (lv_at hl 1 rfl) ?_
            refine lv_iload_n B.1.1 B.1.2.1 dX0_init_119 rfl (lv_at hl 4 rfl) ?_
            refine lv_icmp_ne (tgt := 128) B.1.1 B.1.2.1 dX0_init_120 (by decide) (fun hc => ?_) (fun hc => ?_)
            · replace hw := hw.1 hc
              refine lv_iload B.1.1 B.1.2.1 dX0_init_128 (lv_at hl 2 rfl) ?_
              refine lv_iload B.1.1 B.1.2.1 dX0_init_130 (lv_at hl 7 rfl) ?_
              refine lv_iadd B.1.1 B.1.2.1 dX0_init_132 ?_
              refine lv_istore (i := 11) (lv' := [(11, .int ((m7 * c6) + c6)), (10, .int (m7 * c6)), (8, .int (if c1 < ((m7 * c6) + c2) then c1 else ((m7 * c6) + c2))), (9, .int (m7 * c6)), (0, .ref c0), (1, .int c1), (2, .int c2), (3, .int c3), (6, .int c6), (7, .int m7)]) B.1.1 B.1.2.1 dX0_init_133 hl (by decide) rfl (fun ls hl9 => ?_)
              replace hl := hl9
              clear hl9
              refine lv_aload_n B.1.1 B.1.2.1 dX0_init_135 rfl (lv_at hl 4 rfl) ?_
              obtain ⟨hok, hw⟩ := hw
              refine q_getR B h (ci := 0) (j := 5) (code := 5) rfl inT_0 (by decide) kF_RX0_23 rfl rfl rfl (by decide) dX0_init_136 hok.1 hok.2 ?_
              obtain ⟨o4, hoo4⟩ : ∃ z, z = gR S 5 c0 := ⟨_, rfl⟩
              rw [← hoo4]
              replace hw := hw o4 hoo4
              refine lv_iload B.1.1 B.1.2.1 dX0_init_139 (lv_at hl 9 rfl) ?_
              refine q_new B h (ci := 3) rfl inT_3 tyX3 tyX3_ok kL_RX0_21 kN_3 kI_RX3 (by decide) hfs_3 ((by show _ ≤ 56; omega)) ((by show _ ≤ 5052; omega)) dX0_init_141 (fun q9 H hqq9 h9 => ?_)
              obtain ⟨S19, hS19, hh⟩ : ∃ z, z = nw S 3 0 q9 ∧ Hx D cs lo s z H _ := ⟨_, rfl, h9⟩
              clear h9
              replace h := hh
              clear hh
              replace hw := hw q9 hqq9 S19 hS19
              refine lv_dup B.1.1 B.1.2.1 dX0_init_144 rfl ?_
              refine lv_iload B.1.1 B.1.2.1 dX0_init_145 (lv_at hl 9 rfl) ?_
              refine lv_iload B.1.1 B.1.2.1 dX0_init_147 (lv_at hl 3 rfl) ?_
              refine lv_iload B.1.1 B.1.2.1 dX0_init_149 (lv_at hl 2 rfl) ?_
              refine lv_iload B.1.1 B.1.2.1 dX0_init_151 (lv_at hl 1 rfl) ?_
              refine lv_iload B.1.1 B.1.2.1 dX0_init_153 (lv_at hl 0 rfl) ?_
              refine q_callVI B h (met_X3_init l q9 m7 (m7 * c6) (if c1 < ((m7 * c6) + c2) then c1 else ((m7 * c6) + c2)) (m7 * c6) ((m7 * c6) + c6)) (CB B 5 kC_X3_init kI_RX3 kM_RX0_46 hd_X3_init ⟨Nat.le_of_ble_eq_true rfl, Nat.le_of_ble_eq_true rfl⟩) rfl kO_X3_init (rest := [.ref q9, .int m7, va_rf o4]) rfl rfl hl.1 (by simp [rf_cat, cat_i, cat_r, cat_n, cat_j, cat_f, cat_d]) dX0_init_155 ⟨(by show _ ≤ 56; omega), (by show _ ≤ 5052; omega)⟩ hw (fun S20 H locs hw9 h9 => ?_)
              replace hw := hw9
              clear hw9
              replace h := h9
              clear h9
              obtain ⟨q10, hn, hw⟩ := hw
              subst hn
              replace hl : lv_has ls 12 [(11, .int ((m7 * c6) + c6)), (10, .int (m7 * c6)), (8, .int (if c1 < ((m7 * c6) + c2) then c1 else ((m7 * c6) + c2))), (9, .int (m7 * c6)), (0, .ref c0), (1, .int c1), (2, .int c2), (3, .int c3), (6, .int c6), (7, .int m7)] := hl
              obtain ⟨hok, hin9, hw⟩ := hw
              obtain ⟨hokv, hw⟩ := hw
              refine q_aast B h (kd := 10) (ci := 3) (by decide) (by decide) (by decide) rfl rfl dX0_init_158 hok.1 hok.2 hokv.1 hokv.2 hin9 (fun H locs h9 => ?_)
              obtain ⟨S21, hS21, hh⟩ : ∃ z, z = sQ S20 q10 m7.toNatClampNeg (some q9) ∧ Hx D cs lo s z H _ := ⟨_, rfl, h9⟩
              clear h9
              replace h := hh
              clear hh
              replace hw := hw S21 hS21
              refine lv_iinc (i := 7) (v := (m7 + (1 : Int32))) (lv' := [(7, .int (m7 + (1 : Int32))), (11, .int ((m7 * c6) + c6)), (10, .int (m7 * c6)), (8, .int (if c1 < ((m7 * c6) + c2) then c1 else ((m7 * c6) + c2))), (9, .int (m7 * c6)), (0, .ref c0), (1, .int c1), (2, .int c2), (3, .int c3), (6, .int c6)]) B.1.1 B.1.2.1 dX0_init_159 hl (k := 9) rfl rfl (by decide) rfl (fun ls hl9 => ?_)
              replace hl := hl9
              clear hl9
              refine lv_goto (tgt := 68) B.1.1 B.1.2.1 dX0_init_162 (by decide) ?_
              exact ih (m7 + (1 : Int32)) (if c1 < ((m7 * c6) + c2) then c1 else ((m7 * c6) + c2)) _ _ _ ls _ _ (by omega) (by omega) h (lv_sub hl [5, 6, 7, 8, 9, 0, 3] rfl) hw hk
            · replace hw := hw.2 hc
              refine lv_iload B.1.1 B.1.2.1 dX0_init_123 (lv_at hl 1 rfl) ?_
              refine lv_goto (tgt := 133) B.1.1 B.1.2.1 dX0_init_125 (by decide) ?_
              refine lv_istore (i := 11) (lv' := [(11, .int (if c1 < ((m7 * c6) + c2) then c1 else ((m7 * c6) + c2))), (10, .int (m7 * c6)), (8, .int (if c1 < ((m7 * c6) + c2) then c1 else ((m7 * c6) + c2))), (9, .int (m7 * c6)), (0, .ref c0), (1, .int c1), (2, .int c2), (3, .int c3), (6, .int c6), (7, .int m7)]) B.1.1 B.1.2.1 dX0_init_133 hl (by decide) rfl (fun ls hl9 => ?_)
              replace hl := hl9
              clear hl9
              refine lv_aload_n B.1.1 B.1.2.1 dX0_init_135 rfl (lv_at hl 4 rfl) ?_
              obtain ⟨hok, hw⟩ := hw
              refine q_getR B h (ci := 0) (j := 5) (code := 5) rfl inT_0 (by decide) kF_RX0_23 rfl rfl rfl (by decide) dX0_init_136 hok.1 hok.2 ?_
              obtain ⟨o5, hoo5⟩ : ∃ z, z = gR S 5 c0 := ⟨_, rfl⟩
              rw [← hoo5]
              replace hw := hw o5 hoo5
              refine lv_iload B.1.1 B.1.2.1 dX0_init_139 (lv_at hl 9 rfl) ?_
              refine q_new B h (ci := 3) rfl inT_3 tyX3 tyX3_ok kL_RX0_21 kN_3 kI_RX3 (by decide) hfs_3 ((by show _ ≤ 56; omega)) ((by show _ ≤ 5052; omega)) dX0_init_141 (fun q11 H hqq11 h9 => ?_)
              obtain ⟨S22, hS22, hh⟩ : ∃ z, z = nw S 3 0 q11 ∧ Hx D cs lo s z H _ := ⟨_, rfl, h9⟩
              clear h9
              replace h := hh
              clear hh
              replace hw := hw q11 hqq11 S22 hS22
              refine lv_dup B.1.1 B.1.2.1 dX0_init_144 rfl ?_
              refine lv_iload B.1.1 B.1.2.1 dX0_init_145 (lv_at hl 9 rfl) ?_
              refine lv_iload B.1.1 B.1.2.1 dX0_init_147 (lv_at hl 3 rfl) ?_
              refine lv_iload B.1.1 B.1.2.1 dX0_init_149 (lv_at hl 2 rfl) ?_
              refine lv_iload B.1.1 B.1.2.1 dX0_init_151 (lv_at hl 1 rfl) ?_
              refine lv_iload B.1.1 B.1.2.1 dX0_init_153 (lv_at hl 0 rfl) ?_
              refine q_callVI B h (met_X3_init l q11 m7 (m7 * c6) (if c1 < ((m7 * c6) + c2) then c1 else ((m7 * c6) + c2)) (m7 * c6) (if c1 < ((m7 * c6) + c2) then c1 else ((m7 * c6) + c2))) (CB B 5 kC_X3_init kI_RX3 kM_RX0_46 hd_X3_init ⟨Nat.le_of_ble_eq_true rfl, Nat.le_of_ble_eq_true rfl⟩) rfl kO_X3_init (rest := [.ref q11, .int m7, va_rf o5]) rfl rfl hl.1 (by simp [rf_cat, cat_i, cat_r, cat_n, cat_j, cat_f, cat_d]) dX0_init_155 ⟨(by show _ ≤ 56; omega), (by show _ ≤ 5052; omega)⟩ hw (fun S23 H locs hw9 h9 => ?_)
              replace hw := hw9
              clear hw9
              replace h := h9
              clear h9
              obtain ⟨q12, hn, hw⟩ := hw
              subst hn
              replace hl : lv_has ls 12 [(11, .int (if c1 < ((m7 * c6) + c2) then c1 else ((m7 * c6) + c2))), (10, .int (m7 * c6)), (8, .int (if c1 < ((m7 * c6) + c2) then c1 else ((m7 * c6) + c2))), (9, .int (m7 * c6)), (0, .ref c0), (1, .int c1), (2, .int c2), (3, .int c3), (6, .int c6), (7, .int m7)] := hl
              obtain ⟨hok, hin9, hw⟩ := hw
              obtain ⟨hokv, hw⟩ := hw
              refine q_aast B h (kd := 10) (ci := 3) (by decide) (by decide) (by decide) rfl rfl dX0_init_158 hok.1 hok.2 hokv.1 hokv.2 hin9 (fun H locs h9 => ?_)
              obtain ⟨S24, hS24, hh⟩ : ∃ z, z = sQ S23 q12 m7.toNatClampNeg (some q11) ∧ Hx D cs lo s z H _ := ⟨_, rfl, h9⟩
              clear h9
              replace h := hh
              clear hh
              replace hw := hw S24 hS24
              refine lv_iinc (i := 7) (v := (m7 + (1 : Int32))) (lv' := [(7, .int (m7 + (1 : Int32))), (11, .int (if c1 < ((m7 * c6) + c2) then c1 else ((m7 * c6) + c2))), (10, .int (m7 * c6)), (8, .int (if c1 < ((m7 * c6) + c2) then c1 else ((m7 * c6) + c2))), (9, .int (m7 * c6)), (0, .ref c0), (1, .int c1), (2, .int c2), (3, .int c3), (6, .int c6)]) B.1.1 B.1.2.1 dX0_init_159 hl (k := 9) rfl rfl (by decide) rfl (fun ls hl9 => ?_)
              replace hl := hl9
              clear hl9
              refine lv_goto (tgt := 68) B.1.1 B.1.2.1 dX0_init_162 (by decide) ?_
              exact ih (m7 + (1 : Int32)) (if c1 < ((m7 * c6) + c2) then c1 else ((m7 * c6) + c2)) _ _ _ ls _ _ (by omega) (by omega) h (lv_sub hl [5, 6, 7, 8, 9, 0, 3] rfl) hw hk
  intro h hl hw
  replace hl : lv_has ls 12 [(0, .ref a0), (1, .int x1), (2, .int x2), (3, .int x3), (4, .int x4), (5, .int x5)] := hl
  refine lv_aload_n B.1.1 B.1.2.1 dX0_init_0 rfl (lv_at hl 0 rfl) ?_
  refine q_objInit B kM_RX0_3 kO_objinit kC_objinit hl.1 dX0_init_1 (Nat.le_of_ble_eq_true rfl) (Nat.le_of_ble_eq_true rfl) ?_
  refine lv_aload_n B.1.1 B.1.2.1 dX0_init_4 rfl (lv_at hl 0 rfl) ?_
  refine q_new B h (ci := 1) rfl inT_1 tyX1 tyX1_ok kL_RX0_9 kN_1 kI_RX1 (by decide) hfs_1 (Nat.le_of_ble_eq_true rfl) (Nat.le_of_ble_eq_true rfl) dX0_init_5 (fun q1 H hqq1 h9 => ?_)
  obtain ⟨S1, hS1, hh⟩ : ∃ z, z = nw S 1 0 q1 ∧ Hx D cs lo s z H _ := ⟨_, rfl, h9⟩
  clear h9
  replace h := hh
  clear hh
  replace hw := hw q1 hqq1 S1 hS1
  refine lv_dup B.1.1 B.1.2.1 dX0_init_8 rfl ?_
  refine q_callVIN B h (met_X1_init l q1) (CN B 0 kC_X1_init kI_RX1 kM_RX0_11 hd_X1_init ⟨Nat.le_of_ble_eq_true rfl, Nat.le_of_ble_eq_true rfl⟩) rfl kO_X1_init (rest := [.ref q1, .ref a0]) rfl rfl hl.1 (Nat.le_of_ble_eq_true rfl) dX0_init_9 ⟨Nat.le_of_ble_eq_true rfl, Nat.le_of_ble_eq_true rfl⟩ hw (fun S2 H locs hw9 h9 => ?_)
  replace hw := hw9
  clear hw9
  replace h := h9
  clear h9
  obtain ⟨hok, hw⟩ := hw
  refine q_putRF B h (ci := 0) (j := 3) (code := 3) (v := (some q1)) rfl inT_0 tyX0 tyX0_ok nmX0 (by decide) kF_RX0_12 rfl rfl (hin.trans rfl) rfl rfl rfl (by decide) rfl rfl dX0_init_12 hok.1 hok.2 (fun H locs h9 => ?_)
  obtain ⟨S3, hS3, hh⟩ : ∃ z, z = sR S2 3 a0 (some q1) ∧ Hx D cs lo s z H _ := ⟨_, rfl, h9⟩
  clear h9
  replace h := hh
  clear hh
  replace hw := hw S3 hS3
  refine lv_aload_n B.1.1 B.1.2.1 dX0_init_15 rfl (lv_at hl 0 rfl) ?_
  refine q_new B h (ci := 1) rfl inT_1 tyX1 tyX1_ok kL_RX0_9 kN_1 kI_RX1 (by decide) hfs_1 (Nat.le_of_ble_eq_true rfl) (Nat.le_of_ble_eq_true rfl) dX0_init_16 (fun q2 H hqq2 h9 => ?_)
  obtain ⟨S4, hS4, hh⟩ : ∃ z, z = nw S3 1 0 q2 ∧ Hx D cs lo s z H _ := ⟨_, rfl, h9⟩
  clear h9
  replace h := hh
  clear hh
  replace hw := hw q2 hqq2 S4 hS4
  refine lv_dup B.1.1 B.1.2.1 dX0_init_19 rfl ?_
  refine q_callVIN B h (met_X1_init l q2) (CN B 0 kC_X1_init kI_RX1 kM_RX0_11 hd_X1_init ⟨Nat.le_of_ble_eq_true rfl, Nat.le_of_ble_eq_true rfl⟩) rfl kO_X1_init (rest := [.ref q2, .ref a0]) rfl rfl hl.1 (Nat.le_of_ble_eq_true rfl) dX0_init_20 ⟨Nat.le_of_ble_eq_true rfl, Nat.le_of_ble_eq_true rfl⟩ hw (fun S5 H locs hw9 h9 => ?_)
  replace hw := hw9
  clear hw9
  replace h := h9
  clear h9
  obtain ⟨hok, hw⟩ := hw
  refine q_putRF B h (ci := 0) (j := 4) (code := 4) (v := (some q2)) rfl inT_0 tyX0 tyX0_ok nmX0 (by decide) kF_RX0_18 rfl rfl (hin.trans rfl) rfl rfl rfl (by decide) rfl rfl dX0_init_23 hok.1 hok.2 (fun H locs h9 => ?_)
  obtain ⟨S6, hS6, hh⟩ : ∃ z, z = sR S5 4 a0 (some q2) ∧ Hx D cs lo s z H _ := ⟨_, rfl, h9⟩
  clear h9
  replace h := hh
  clear hh
  replace hw := hw S6 hS6
  refine lv_aload_n B.1.1 B.1.2.1 dX0_init_26 rfl (lv_at hl 0 rfl) ?_
  refine lv_bipush (v := (16 : Int32)) B.1.1 B.1.2.1 dX0_init_27 (by decide) ?_
  refine q_newq B h (kd := 10) (N' := 16) (by decide) (by decide) rfl kL_RX0_21 B.2.2.2.2.2.2.2.2.2 (by decide) (by decide) (Nat.le_of_ble_eq_true rfl) (Nat.le_of_ble_eq_true rfl) (Nat.le_of_ble_eq_true rfl) dX0_init_29 (fun q3 H hqq3 h9 => ?_)
  obtain ⟨S7, hS7, hh⟩ : ∃ z, z = nw S6 10 16 q3 ∧ Hx D cs lo s z H _ := ⟨_, rfl, h9⟩
  clear h9
  replace h := hh
  clear hh
  replace hw := hw q3 hqq3 S7 hS7
  obtain ⟨hok, hw⟩ := hw
  refine q_putRF B h (ci := 0) (j := 5) (code := 5) (v := (some q3)) rfl inT_0 tyX0 tyX0_ok nmX0 (by decide) kF_RX0_23 rfl rfl (hin.trans rfl) rfl rfl rfl (by decide) rfl rfl dX0_init_32 hok.1 hok.2 (fun H locs h9 => ?_)
  obtain ⟨S8, hS8, hh⟩ : ∃ z, z = sR S7 5 a0 (some q3) ∧ Hx D cs lo s z H _ := ⟨_, rfl, h9⟩
  clear h9
  replace h := hh
  clear hh
  replace hw := hw S8 hS8
  refine lv_aload_n B.1.1 B.1.2.1 dX0_init_35 rfl (lv_at hl 0 rfl) ?_
  refine lv_iconst (v := (0 : Int32)) B.1.1 B.1.2.1 dX0_init_36 (by decide) ?_
  obtain ⟨hok, hw⟩ := hw
  refine q_putI B h (ci := 0) (j := 7) (code := 7) (v := (0 : Int32)) rfl inT_0 tyX0 tyX0_ok nmX0 (by decide) kF_RX0_27 rfl rfl rfl rfl (by decide) (by first | rfl | decide) (by first | rfl | decide) dX0_init_37 hok.1 hok.2 (fun H locs h9 => ?_)
  obtain ⟨S9, hS9, hh⟩ : ∃ z, z = sI S8 7 a0 (0 : Int32) ∧ Hx D cs lo s z H _ := ⟨_, rfl, h9⟩
  clear h9
  replace h := hh
  clear hh
  replace hw := hw S9 hS9
  refine lv_aload_n B.1.1 B.1.2.1 dX0_init_40 rfl (lv_at hl 0 rfl) ?_
  refine lv_iload_n B.1.1 B.1.2.1 dX0_init_41 rfl (lv_at hl 1 rfl) ?_
  obtain ⟨hok, hw⟩ := hw
  refine q_putIF B h (ci := 0) (j := 0) (code := 0) (v := x1) rfl inT_0 tyX0 tyX0_ok nmX0 (by decide) kF_RX0_31 rfl rfl (hin.trans rfl) rfl rfl rfl (by decide) (by first | rfl | decide) (by first | rfl | decide) dX0_init_42 hok.1 hok.2 (fun H locs h9 => ?_)
  obtain ⟨S10, hS10, hh⟩ : ∃ z, z = sI S9 0 a0 x1 ∧ Hx D cs lo s z H _ := ⟨_, rfl, h9⟩
  clear h9
  replace h := hh
  clear hh
  replace hw := hw S10 hS10
  refine lv_aload_n B.1.1 B.1.2.1 dX0_init_45 rfl (lv_at hl 0 rfl) ?_
  refine lv_iload B.1.1 B.1.2.1 dX0_init_46 (lv_at hl 4 rfl) ?_
  obtain ⟨hok, hw⟩ := hw
  refine q_putIF B h (ci := 0) (j := 1) (code := 1) (v := x4) rfl inT_0 tyX0 tyX0_ok nmX0 (by decide) kF_RX0_34 rfl rfl (hin.trans rfl) rfl rfl rfl (by decide) (by first | rfl | decide) (by first | rfl | decide) dX0_init_48 hok.1 hok.2 (fun H locs h9 => ?_)
  obtain ⟨S11, hS11, hh⟩ : ∃ z, z = sI S10 1 a0 x4 ∧ Hx D cs lo s z H _ := ⟨_, rfl, h9⟩
  clear h9
  replace h := hh
  clear hh
  replace hw := hw S11 hS11
  refine lv_aload_n B.1.1 B.1.2.1 dX0_init_51 rfl (lv_at hl 0 rfl) ?_
  refine lv_iload B.1.1 B.1.2.1 dX0_init_52 (lv_at hl 5 rfl) ?_
  obtain ⟨hok, hw⟩ := hw
  refine q_putIF B h (ci := 0) (j := 2) (code := 2) (v := x5) rfl inT_0 tyX0 tyX0_ok nmX0 (by decide) kF_RX0_37 rfl rfl (hin.trans rfl) rfl rfl rfl (by decide) (by first | rfl | decide) (by first | rfl | decide) dX0_init_54 hok.1 hok.2 (fun H locs h9 => ?_)
  obtain ⟨S12, hS12, hh⟩ : ∃ z, z = sI S11 2 a0 x5 ∧ Hx D cs lo s z H _ := ⟨_, rfl, h9⟩
  clear h9
  replace h := hh
  clear hh
  replace hw := hw S12 hS12
  refine lv_iload_n B.1.1 B.1.2.1 dX0_init_57 rfl (lv_at hl 2 rfl) ?_
  refine lv_iload_n B.1.1 B.1.2.1 dX0_init_58 rfl (lv_at hl 3 rfl) ?_
  refine lv_isub B.1.1 B.1.2.1 dX0_init_59 ?_
  refine lv_istore (i := 6) (lv' := [(6, .int (x2 - x3)), (0, .ref a0), (1, .int x1), (2, .int x2), (3, .int x3), (4, .int x4), (5, .int x5)]) B.1.1 B.1.2.1 dX0_init_60 hl (by decide) rfl (fun ls hl9 => ?_)
  replace hl := hl9
  clear hl9
  refine lv_iconst (v := (0 : Int32)) B.1.1 B.1.2.1 dX0_init_62 (by decide) ?_
  refine lv_istore (i := 7) (lv' := [(7, .int (0 : Int32)), (6, .int (x2 - x3)), (0, .ref a0), (1, .int x1), (2, .int x2), (3, .int x3), (4, .int x4), (5, .int x5)]) B.1.1 B.1.2.1 dX0_init_63 hl (by decide) rfl (fun ls hl9 => ?_)
  replace hl := hl9
  clear hl9
  refine lv_iconst (v := (0 : Int32)) B.1.1 B.1.2.1 dX0_init_65 (by decide) ?_
  refine lv_istore (i := 8) (lv' := [(8, .int (0 : Int32)), (7, .int (0 : Int32)), (6, .int (x2 - x3)), (0, .ref a0), (1, .int x1), (2, .int x2), (3, .int x3), (4, .int x4), (5, .int x5)]) B.1.1 B.1.2.1 dX0_init_66 hl (by decide) rfl (fun ls hl9 => ?_)
  replace hl := hl9
  clear hl9
  obtain ⟨n1, hn1, hw⟩ := hw
  refine L68 a0 x1 x2 x3 (x2 - x3) _ n1 (0 : Int32) (0 : Int32) _ _ _ ls _ _ (by omega) (by omega) h (lv_sub hl [3, 4, 5, 6, 2, 1, 0] rfl) hw (fun u1 u2 S25 H locs ls cells slots hcc hss h9 hl9 hw9 => ?_)
  replace hw := hw9
  clear hw9
  replace h := h9
  clear h9
  replace hl := hl9
  clear hl9
  refine lv_aload_n B.1.1 B.1.2.1 dX0_init_165 rfl (lv_at hl 0 rfl) ?_
  refine lv_iload B.1.1 B.1.2.1 dX0_init_166 (lv_at hl 5 rfl) ?_
  obtain ⟨hok, hw⟩ := hw
  refine q_putIF B h (ci := 0) (j := 6) (code := 6) (v := u1) rfl inT_0 tyX0 tyX0_ok nmX0 (by decide) kF_RX0_49 rfl rfl (hin.trans rfl) rfl rfl rfl (by decide) (by first | rfl | decide) (by first | rfl | decide) dX0_init_168 hok.1 hok.2 (fun H locs h9 => ?_)
  obtain ⟨S26, hS26, hh⟩ : ∃ z, z = sI S25 6 a0 u1 ∧ Hx D cs lo s z H _ := ⟨_, rfl, h9⟩
  clear h9
  replace h := hh
  clear hh
  replace hw := hw S26 hS26
  exact q_vret B hr hlk h hw dX0_init_171 (by omega) (by omega)
set_option maxHeartbeats 4000000 in
set_option maxRecDepth 100000 in
theorem met_X4_begin (l : Launch) (hst : l.stackTraces = false) (a0 : Nat) (x1 : Int32) (x2 : Int32) (x3 : Int32) (x4 : Int32) (x5 : Int32) : TI l yX4_begin cX4_begin 7 (some .int) 6 88 57 5060 [.ref a0, .int x1, .int x2, .int x3, .int x4, .int x5] (wX4_begin a0 x1 x2 x3 x4 x5) := by
  refine TI.of (by decide) (Nat.le_of_ble_eq_true rfl) ?_
  intro p e s m below meth c D cs lo S Q QX ls B hr hlk hin hxt
  intro h hl hw
  replace hl : lv_has ls 7 [(0, .ref a0), (1, .int x1), (2, .int x2), (3, .int x3), (4, .int x4), (5, .int x5)] := hl
  refine lv_iload_n B.1.1 B.1.2.1 dX4_begin_0 rfl (lv_at hl 1 rfl) ?_
  refine lv_iconst (v := (4 : Int32)) B.1.1 B.1.2.1 dX4_begin_1 (by decide) ?_
  refine lv_bipush (v := (32 : Int32)) B.1.1 B.1.2.1 dX4_begin_2 (by decide) ?_
  refine q_callIS B h (met_X4_isWithin l x1 (4 : Int32) (32 : Int32)) (CB B 3 kC_X4_isWithin kI_RX4 kM_RX4_29 hd_X4_isWithin ⟨Nat.le_of_ble_eq_true rfl, Nat.le_of_ble_eq_true rfl⟩) kS_X4_isWithin (rest := []) rfl rfl hl.1 (Nat.le_of_ble_eq_true rfl) dX4_begin_4 ⟨Nat.le_of_ble_eq_true rfl, Nat.le_of_ble_eq_true rfl⟩ hw (fun r1 S1 H locs hw9 h9 => ?_)
  replace hw := hw9
  clear hw9
  replace h := h9
  clear h9
  refine lv_if_ne (tgt := 20) B.1.1 B.1.2.1 dX4_begin_7 (by decide) (fun hc => ?_) (fun hc => ?_)
  · replace hw := hw.1 hc
    refine lv_iload_n B.1.1 B.1.2.1 dX4_begin_20 rfl (lv_at hl 2 rfl) ?_
    refine lv_iconst (v := (2 : Int32)) B.1.1 B.1.2.1 dX4_begin_21 (by decide) ?_
    refine lv_bipush (v := (12 : Int32)) B.1.1 B.1.2.1 dX4_begin_22 (by decide) ?_
    refine q_callIS B h (met_X4_isWithin l x2 (2 : Int32) (12 : Int32)) (CB B 3 kC_X4_isWithin kI_RX4 kM_RX4_29 hd_X4_isWithin ⟨Nat.le_of_ble_eq_true rfl, Nat.le_of_ble_eq_true rfl⟩) kS_X4_isWithin (rest := []) rfl rfl hl.1 (Nat.le_of_ble_eq_true rfl) dX4_begin_24 ⟨Nat.le_of_ble_eq_true rfl, Nat.le_of_ble_eq_true rfl⟩ hw (fun r2 S2 H locs hw9 h9 => ?_)
    replace hw := hw9
    clear hw9
    replace h := h9
    clear h9
    refine lv_if_ne (tgt := 40) B.1.1 B.1.2.1 dX4_begin_27 (by decide) (fun hc => ?_) (fun hc => ?_)
    · replace hw := hw.1 hc
      refine lv_iload_n B.1.1 B.1.2.1 dX4_begin_40 rfl (lv_at hl 3 rfl) ?_
      refine lv_iconst (v := (0 : Int32)) B.1.1 B.1.2.1 dX4_begin_41 (by decide) ?_
      refine lv_iconst (v := (3 : Int32)) B.1.1 B.1.2.1 dX4_begin_42 (by decide) ?_
      refine q_callIS B h (met_X4_isWithin l x3 (0 : Int32) (3 : Int32)) (CB B 3 kC_X4_isWithin kI_RX4 kM_RX4_29 hd_X4_isWithin ⟨Nat.le_of_ble_eq_true rfl, Nat.le_of_ble_eq_true rfl⟩) kS_X4_isWithin (rest := []) rfl rfl hl.1 (Nat.le_of_ble_eq_true rfl) dX4_begin_43 ⟨Nat.le_of_ble_eq_true rfl, Nat.le_of_ble_eq_true rfl⟩ hw (fun r3 S3 H locs hw9 h9 => ?_)
      replace hw := hw9
      clear hw9
      replace h := h9
      clear h9
      refine lv_if_eq (tgt := 56) B.1.1 B.1.2.1 dX4_begin_46 (by decide) (fun hc => ?_) (fun hc => ?_)
      · replace hw := hw.1 hc
        exact q_throw (E := "java/lang/IllegalArgumentException") (text := "overlap") (ic := 37) B h hst hxt hlk rfl (by decide +kernel) kL_RX4_33 kI_java_lang_IllegalArgumentException (by decide) kX_37 kY_37 hl.1 dX4_begin_56 dX4_begin_59 dX4_begin_60 dX4_begin_62 dX4_begin_65 (Nat.le_of_ble_eq_true rfl) (Nat.le_of_ble_eq_true rfl) (Nat.le_of_ble_eq_true rfl) (Nat.le_of_ble_eq_true rfl) (Nat.le_of_ble_eq_true rfl) (Nat.le_of_ble_eq_true rfl) hw
      · replace hw := hw.2 hc
        refine lv_iconst (v := (2 : Int32)) B.1.1 B.1.2.1 dX4_begin_49 (by decide) ?_
        refine lv_iload_n B.1.1 B.1.2.1 dX4_begin_50 rfl (lv_at hl 3 rfl) ?_
        refine lv_imul B.1.1 B.1.2.1 dX4_begin_51 ?_
        refine lv_iload_n B.1.1 B.1.2.1 dX4_begin_52 rfl (lv_at hl 2 rfl) ?_
        refine lv_icmp_lt (tgt := 66) B.1.1 B.1.2.1 dX4_begin_53 (by decide) (fun hc => ?_) (fun hc => ?_)
        · replace hw := hw.1 hc
          refine lv_iload B.1.1 B.1.2.1 dX4_begin_66 (lv_at hl 4 rfl) ?_
          refine lv_iconst (v := (1 : Int32)) B.1.1 B.1.2.1 dX4_begin_68 (by decide) ?_
          refine lv_bipush (v := (40 : Int32)) B.1.1 B.1.2.1 dX4_begin_69 (by decide) ?_
          refine q_callIS B h (met_X4_isWithin l x4 (1 : Int32) (40 : Int32)) (CB B 3 kC_X4_isWithin kI_RX4 kM_RX4_29 hd_X4_isWithin ⟨Nat.le_of_ble_eq_true rfl, Nat.le_of_ble_eq_true rfl⟩) kS_X4_isWithin (rest := []) rfl rfl hl.1 (Nat.le_of_ble_eq_true rfl) dX4_begin_71 ⟨Nat.le_of_ble_eq_true rfl, Nat.le_of_ble_eq_true rfl⟩ hw (fun r4 S4 H locs hw9 h9 => ?_)
          replace hw := hw9
          clear hw9
          replace h := h9
          clear h9
          refine lv_if_ne (tgt := 87) B.1.1 B.1.2.1 dX4_begin_74 (by decide) (fun hc => ?_) (fun hc => ?_)
          · replace hw := hw.1 hc
            refine lv_iload B.1.1 B.1.2.1 dX4_begin_87 (lv_at hl 5 rfl) ?_
            refine lv_iconst (v := (0 : Int32)) B.1.1 B.1.2.1 dX4_begin_89 (by decide) ?_
            refine lv_sipush (v := (10000 : Int32)) B.1.1 B.1.2.1 dX4_begin_90 (by decide) ?_
            refine q_callIS B h (met_X4_isWithin l x5 (0 : Int32) (10000 : Int32)) (CB B 3 kC_X4_isWithin kI_RX4 kM_RX4_29 hd_X4_isWithin ⟨Nat.le_of_ble_eq_true rfl, Nat.le_of_ble_eq_true rfl⟩) kS_X4_isWithin (rest := []) rfl rfl hl.1 (Nat.le_of_ble_eq_true rfl) dX4_begin_93 ⟨Nat.le_of_ble_eq_true rfl, Nat.le_of_ble_eq_true rfl⟩ hw (fun r5 S5 H locs hw9 h9 => ?_)
            replace hw := hw9
            clear hw9
            replace h := h9
            clear h9
            refine lv_if_ne (tgt := 109) B.1.1 B.1.2.1 dX4_begin_96 (by decide) (fun hc => ?_) (fun hc => ?_)
            · replace hw := hw.1 hc
              refine lv_aload_n B.1.1 B.1.2.1 dX4_begin_109 rfl (lv_at hl 0 rfl) ?_
              obtain ⟨hok, hw⟩ := hw
              refine q_getI B h (ci := 4) (j := 2) (code := 130) rfl inT_4 (by decide) kF_RX4_21 rfl rfl rfl (by decide) dX4_begin_110 hok.1 hok.2 ?_
              refine lv_istore (i := 6) (lv' := [(6, .int (gI S5 130 a0)), (0, .ref a0), (1, .int x1), (2, .int x2), (3, .int x3), (4, .int x4), (5, .int x5)]) B.1.1 B.1.2.1 dX4_begin_113 hl (by decide) rfl (fun ls hl9 => ?_)
              replace hl := hl9
              clear hl9
              refine lv_iload B.1.1 B.1.2.1 dX4_begin_115 (lv_at hl 0 rfl) ?_
              refine lv_if_lt (tgt := 130) B.1.1 B.1.2.1 dX4_begin_117 (by decide) (fun hc => ?_) (fun hc => ?_)
              · replace hw := hw.1 hc
                exact q_throw (E := "java/lang/IllegalStateException") (text := "no more banners") (ic := 52) B h hst hxt hlk rfl (by decide +kernel) kL_RX4_48 kI_java_lang_IllegalStateException (by decide) kX_52 kY_52 hl.1 dX4_begin_130 dX4_begin_133 dX4_begin_134 dX4_begin_136 dX4_begin_139 (Nat.le_of_ble_eq_true rfl) (Nat.le_of_ble_eq_true rfl) (Nat.le_of_ble_eq_true rfl) (Nat.le_of_ble_eq_true rfl) (Nat.le_of_ble_eq_true rfl) (Nat.le_of_ble_eq_true rfl) hw
              · replace hw := hw.2 hc
                refine lv_iload B.1.1 B.1.2.1 dX4_begin_120 (lv_at hl 0 rfl) ?_
                refine lv_aload_n B.1.1 B.1.2.1 dX4_begin_122 rfl (lv_at hl 1 rfl) ?_
                obtain ⟨hok, hw⟩ := hw
                refine q_getR B h (ci := 4) (j := 0) (code := 128) rfl inT_4 (by decide) kF_RX4_11 rfl rfl rfl (by decide) dX4_begin_123 hok.1 hok.2 ?_
                obtain ⟨o1, hoo1⟩ : ∃ z, z = gR S5 128 a0 := ⟨_, rfl⟩
                rw [← hoo1]
                replace hw := hw o1 hoo1
                obtain ⟨q1, hn, hw⟩ := hw
                subst hn
                replace hl : lv_has ls 7 [(6, .int (gI S5 130 a0)), (0, .ref a0), (1, .int x1), (2, .int x2), (3, .int x3), (4, .int x4), (5, .int x5)] := hl
                obtain ⟨hok, hw⟩ := hw
                refine q_alen B h dX4_begin_126 hok.1 (by rw [hok.2]; decide) (by rw [hok.2]; decide) ?_
                refine lv_icmp_lt (tgt := 140) B.1.1 B.1.2.1 dX4_begin_127 (by decide) (fun hc => ?_) (fun hc => ?_)
                · replace hw := hw.1 hc
                  refine lv_aload_n B.1.1 B.1.2.1 dX4_begin_140 rfl (lv_at hl 1 rfl) ?_
                  obtain ⟨hok, hw⟩ := hw
                  refine q_getR B h (ci := 4) (j := 0) (code := 128) rfl inT_4 (by decide) kF_RX4_11 rfl rfl rfl (by decide) dX4_begin_141 hok.1 hok.2 ?_
                  obtain ⟨o2, hoo2⟩ : ∃ z, z = gR S5 128 a0 := ⟨_, rfl⟩
                  rw [← hoo2]
                  replace hw := hw o2 hoo2
                  refine lv_iload B.1.1 B.1.2.1 dX4_begin_144 (lv_at hl 0 rfl) ?_
                  refine q_new B h (ci := 0) rfl inT_0 tyX0 tyX0_ok kL_RX4_9 kN_0 kI_RX0 (by decide) hfs_0 (Nat.le_of_ble_eq_true rfl) (Nat.le_of_ble_eq_true rfl) dX4_begin_146 (fun q2 H hqq2 h9 => ?_)
                  obtain ⟨S6, hS6, hh⟩ : ∃ z, z = nw S5 0 0 q2 ∧ Hx D cs lo s z H _ := ⟨_, rfl, h9⟩
                  clear h9
                  replace h := hh
                  clear hh
                  replace hw := hw q2 hqq2 S6 hS6
                  refine lv_dup B.1.1 B.1.2.1 dX4_begin_149 rfl ?_
                  refine lv_iload_n B.1.1 B.1.2.1 dX4_begin_150 rfl (lv_at hl 2 rfl) ?_
                  refine lv_iload_n B.1.1 B.1.2.1 dX4_begin_151 rfl (lv_at hl 3 rfl) ?_
                  refine lv_iload_n B.1.1 B.1.2.1 dX4_begin_152 rfl (lv_at hl 4 rfl) ?_
                  refine lv_iload B.1.1 B.1.2.1 dX4_begin_153 (lv_at hl 5 rfl) ?_
                  refine lv_iload B.1.1 B.1.2.1 dX4_begin_155 (lv_at hl 6 rfl) ?_
                  refine q_callVI B h (met_X0_init l q2 x1 x2 x3 x4 x5) (CB B 5 kC_X0_init kI_RX0 kM_RX4_53 hd_X0_init ⟨Nat.le_of_ble_eq_true rfl, Nat.le_of_ble_eq_true rfl⟩) rfl kO_X0_init (rest := [.ref q2, .int (gI S5 130 a0), va_rf o2]) rfl rfl hl.1 (by simp [rf_cat, cat_i, cat_r, cat_n, cat_j, cat_f, cat_d]) dX4_begin_157 ⟨Nat.le_of_ble_eq_true rfl, Nat.le_of_ble_eq_true rfl⟩ hw (fun S7 H locs hw9 h9 => ?_)
                  replace hw := hw9
                  clear hw9
                  replace h := h9
                  clear h9
                  obtain ⟨q3, hn, hw⟩ := hw
                  subst hn
                  replace hl : lv_has ls 7 [(6, .int (gI S5 130 a0)), (0, .ref a0), (1, .int x1), (2, .int x2), (3, .int x3), (4, .int x4), (5, .int x5)] := hl
                  obtain ⟨hok, hin9, hw⟩ := hw
                  obtain ⟨hokv, hw⟩ := hw
                  refine q_aast B h (kd := 8) (ci := 0) (by decide) (by decide) (by decide) rfl rfl dX4_begin_160 hok.1 hok.2 hokv.1 hokv.2 hin9 (fun H locs h9 => ?_)
                  obtain ⟨S8, hS8, hh⟩ : ∃ z, z = sQ S7 q3 (gI S5 130 a0).toNatClampNeg (some q2) ∧ Hx D cs lo s z H _ := ⟨_, rfl, h9⟩
                  clear h9
                  replace h := hh
                  clear hh
                  replace hw := hw S8 hS8
                  refine lv_aload_n B.1.1 B.1.2.1 dX4_begin_161 rfl (lv_at hl 1 rfl) ?_
                  refine lv_iload B.1.1 B.1.2.1 dX4_begin_162 (lv_at hl 0 rfl) ?_
                  refine lv_iconst (v := (1 : Int32)) B.1.1 B.1.2.1 dX4_begin_164 (by decide) ?_
                  refine lv_iadd B.1.1 B.1.2.1 dX4_begin_165 ?_
                  obtain ⟨hok, hw⟩ := hw
                  refine q_putI B h (ci := 4) (j := 2) (code := 130) (v := ((gI S5 130 a0) + (1 : Int32))) rfl inT_4 tyX4 tyX4_ok nmX4 (by decide) kF_RX4_21 rfl rfl rfl rfl (by decide) (by first | rfl | decide) (by first | rfl | decide) dX4_begin_166 hok.1 hok.2 (fun H locs h9 => ?_)
                  obtain ⟨S9, hS9, hh⟩ : ∃ z, z = sI S8 130 a0 ((gI S5 130 a0) + (1 : Int32)) ∧ Hx D cs lo s z H _ := ⟨_, rfl, h9⟩
                  clear h9
                  replace h := hh
                  clear hh
                  replace hw := hw S9 hS9
                  refine lv_iload B.1.1 B.1.2.1 dX4_begin_169 (lv_at hl 0 rfl) ?_
                  refine vx_ret ?_; exact q_iret B hr hlk h hw dX4_begin_171 (Nat.le_of_ble_eq_true rfl) (Nat.le_of_ble_eq_true rfl)
                · replace hw := hw.2 hc
                  exact q_throw (E := "java/lang/IllegalStateException") (text := "no more banners") (ic := 52) B h hst hxt hlk rfl (by decide +kernel) kL_RX4_48 kI_java_lang_IllegalStateException (by decide) kX_52 kY_52 hl.1 dX4_begin_130 dX4_begin_133 dX4_begin_134 dX4_begin_136 dX4_begin_139 (Nat.le_of_ble_eq_true rfl) (Nat.le_of_ble_eq_true rfl) (Nat.le_of_ble_eq_true rfl) (Nat.le_of_ble_eq_true rfl) (Nat.le_of_ble_eq_true rfl) (Nat.le_of_ble_eq_true rfl) hw
            · replace hw := hw.2 hc
              exact q_throw (E := "java/lang/IllegalArgumentException") (text := "due") (ic := 37) B h hst hxt hlk rfl (by decide +kernel) kL_RX4_33 kI_java_lang_IllegalArgumentException (by decide) kX_37 kY_37 hl.1 dX4_begin_99 dX4_begin_102 dX4_begin_103 dX4_begin_105 dX4_begin_108 (Nat.le_of_ble_eq_true rfl) (Nat.le_of_ble_eq_true rfl) (Nat.le_of_ble_eq_true rfl) (Nat.le_of_ble_eq_true rfl) (Nat.le_of_ble_eq_true rfl) (Nat.le_of_ble_eq_true rfl) hw
          · replace hw := hw.2 hc
            exact q_throw (E := "java/lang/IllegalArgumentException") (text := "limit") (ic := 37) B h hst hxt hlk rfl (by decide +kernel) kL_RX4_33 kI_java_lang_IllegalArgumentException (by decide) kX_37 kY_37 hl.1 dX4_begin_77 dX4_begin_80 dX4_begin_81 dX4_begin_83 dX4_begin_86 (Nat.le_of_ble_eq_true rfl) (Nat.le_of_ble_eq_true rfl) (Nat.le_of_ble_eq_true rfl) (Nat.le_of_ble_eq_true rfl) (Nat.le_of_ble_eq_true rfl) (Nat.le_of_ble_eq_true rfl) hw
        · replace hw := hw.2 hc
          exact q_throw (E := "java/lang/IllegalArgumentException") (text := "overlap") (ic := 37) B h hst hxt hlk rfl (by decide +kernel) kL_RX4_33 kI_java_lang_IllegalArgumentException (by decide) kX_37 kY_37 hl.1 dX4_begin_56 dX4_begin_59 dX4_begin_60 dX4_begin_62 dX4_begin_65 (Nat.le_of_ble_eq_true rfl) (Nat.le_of_ble_eq_true rfl) (Nat.le_of_ble_eq_true rfl) (Nat.le_of_ble_eq_true rfl) (Nat.le_of_ble_eq_true rfl) (Nat.le_of_ble_eq_true rfl) hw
    · replace hw := hw.2 hc
      exact q_throw (E := "java/lang/IllegalArgumentException") (text := "width") (ic := 37) B h hst hxt hlk rfl (by decide +kernel) kL_RX4_33 kI_java_lang_IllegalArgumentException (by decide) kX_37 kY_37 hl.1 dX4_begin_30 dX4_begin_33 dX4_begin_34 dX4_begin_36 dX4_begin_39 (Nat.le_of_ble_eq_true rfl) (Nat.le_of_ble_eq_true rfl) (Nat.le_of_ble_eq_true rfl) (Nat.le_of_ble_eq_true rfl) (Nat.le_of_ble_eq_true rfl) (Nat.le_of_ble_eq_true rfl) hw
  · replace hw := hw.2 hc
    exact q_throw (E := "java/lang/IllegalArgumentException") (text := "columns") (ic := 37) B h hst hxt hlk rfl (by decide +kernel) kL_RX4_33 kI_java_lang_IllegalArgumentException (by decide) kX_37 kY_37 hl.1 dX4_begin_10 dX4_begin_13 dX4_begin_14 dX4_begin_16 dX4_begin_19 (Nat.le_of_ble_eq_true rfl) (Nat.le_of_ble_eq_true rfl) (Nat.le_of_ble_eq_true rfl) (Nat.le_of_ble_eq_true rfl) (Nat.le_of_ble_eq_true rfl) (Nat.le_of_ble_eq_true rfl) hw
set_option maxHeartbeats 4000000 in
set_option maxRecDepth 100000 in
theorem met_X4_init (l : Launch) (a0 : Nat) : MV l yX4_init cX4_init 2 none 2 32 14 112 [.ref a0] (wX4_init a0) := by
  refine MV.of (by decide) (Nat.le_of_ble_eq_true rfl) ?_
  intro p e s m below meth c D cs lo S Q ls B hr hlk hin
  have L32 : ∀ (c0 : Nat) (K : Int32 → HS → Prop) (n : Nat) (m1 : Int32) (S : HS) (H : Heap) (locs : List Loc) (ls : Array Slot) (cells slots : Nat), cells + n * 3 ≤ 14 → slots + n * 26 ≤ 112 → Hx D cs lo s S H locs → lv_has ls 2 [(0, .ref c0), (1, .int m1)] → wX4_init_L32 c0 n m1 S K → (∀ (m1 : Int32) (S : HS) (H : Heap) (locs : List Loc) (ls : Array Slot) (cells slots : Nat), cells ≤ 14 → slots ≤ 112 → Hx D cs lo s S H locs → lv_has ls 2 [(0, .ref c0), (1, .int m1)] → K m1 S → W p l e ({ frames := 2, cells := 14, slots := 112, locals := 32 } : Room) s m [.ref a0].toArray below meth c H locs cells slots (MQ below (va_Qv Q (fun S' t => hp D cs lo S' t.heap) (fun q => lo ≤ q)) [.ref a0].toArray s 14 112 (fun q => lo ≤ q)) (F0 m 60 ls [])) → W p l e ({ frames := 2, cells := 14, slots := 112, locals := 32 } : Room) s m [.ref a0].toArray below meth c H locs cells slots (MQ below (va_Qv Q (fun S' t => hp D cs lo S' t.heap) (fun q => lo ≤ q)) [.ref a0].toArray s 14 112 (fun q => lo ≤ q)) (F0 m 32 ls []) := by
    intro c0 K n
    induction n with
    | zero => intro m1 S H locs ls cells slots hcc hss h hl hw hk; exact False.elim hw
    | succ n ih =>
      intro m1 S H locs ls cells slots hcc hss h hl hw hk
      refine lv_iload_n B.1.1 B.1.2.1 dX4_init_32 rfl (lv_at hl 1 rfl) ?_
      refine lv_aload_n B.1.1 B.1.2.1 dX4_init_33 rfl (lv_at hl 0 rfl) ?_
      obtain ⟨hok, hw⟩ := hw
      refine q_getR B h (ci := 4) (j := 1) (code := 129) rfl inT_4 (by decide) kF_RX4_17 rfl rfl rfl (by decide) dX4_init_34 hok.1 hok.2 ?_
      obtain ⟨o1, hoo1⟩ : ∃ z, z = gR S 129 c0 := ⟨_, rfl⟩
      rw [← hoo1]
      replace hw := hw o1 hoo1
      obtain ⟨q3, hn, hw⟩ := hw
      subst hn
      replace hl : lv_has ls 2 [(0, .ref c0), (1, .int m1)] := hl
      obtain ⟨hok, hw⟩ := hw
      refine q_alen B h dX4_init_37 hok.1 (by rw [hok.2]; decide) (by rw [hok.2]; decide) ?_
      refine lv_icmp_ge (tgt := 60) B.1.1 B.1.2.1 dX4_init_38 (by decide) (fun hc => ?_) (fun hc => ?_)
      · replace hw := hw.1 hc
        exact hk m1 _ _ _ ls _ _ (by omega) (by omega) h (lv_sub hl [0, 1] rfl) hw
      · replace hw := hw.2 hc
        refine lv_aload_n B.1.1 B.1.2.1 dX4_init_41 rfl (lv_at hl 0 rfl) ?_
        obtain ⟨hok, hw⟩ := hw
        refine q_getR B h (ci := 4) (j := 1) (code := 129) rfl inT_4 (by decide) kF_RX4_17 rfl rfl rfl (by decide) dX4_init_42 hok.1 hok.2 ?_
        obtain ⟨o2, hoo2⟩ : ∃ z, z = gR S 129 c0 := ⟨_, rfl⟩
        rw [← hoo2]
        replace hw := hw o2 hoo2
        refine lv_iload_n B.1.1 B.1.2.1 dX4_init_45 rfl (lv_at hl 1 rfl) ?_
        refine q_new B h (ci := 2) rfl inT_2 tyX2 tyX2_ok kL_RX4_15 kN_2 kI_RX2 (by decide) hfs_2 ((by show _ ≤ 14; omega)) ((by show _ ≤ 112; omega)) dX4_init_46 (fun q4 H hqq4 h9 => ?_)
        obtain ⟨S7, hS7, hh⟩ : ∃ z, z = nw S 2 0 q4 ∧ Hx D cs lo s z H _ := ⟨_, rfl, h9⟩
        clear h9
        replace h := hh
        clear hh
        replace hw := hw q4 hqq4 S7 hS7
        refine lv_dup B.1.1 B.1.2.1 dX4_init_49 rfl ?_
        refine q_callVIN B h (met_X2_init l q4) (CN B 0 kC_X2_init kI_RX2 kM_RX4_28 hd_X2_init ⟨Nat.le_of_ble_eq_true rfl, Nat.le_of_ble_eq_true rfl⟩) rfl kO_X2_init (rest := [.ref q4, .int m1, va_rf o2]) rfl rfl hl.1 (by simp [rf_cat, cat_i, cat_r, cat_n, cat_j, cat_f, cat_d]) dX4_init_50 ⟨(by show _ ≤ 14; omega), (by show _ ≤ 112; omega)⟩ hw (fun S8 H locs hw9 h9 => ?_)
        replace hw := hw9
        clear hw9
        replace h := h9
        clear h9
        obtain ⟨q5, hn, hw⟩ := hw
        subst hn
        replace hl : lv_has ls 2 [(0, .ref c0), (1, .int m1)] := hl
        obtain ⟨hok, hin9, hw⟩ := hw
        obtain ⟨hokv, hw⟩ := hw
        refine q_aast B h (kd := 9) (ci := 2) (by decide) (by decide) (by decide) rfl rfl dX4_init_53 hok.1 hok.2 hokv.1 hokv.2 hin9 (fun H locs h9 => ?_)
        obtain ⟨S9, hS9, hh⟩ : ∃ z, z = sQ S8 q5 m1.toNatClampNeg (some q4) ∧ Hx D cs lo s z H _ := ⟨_, rfl, h9⟩
        clear h9
        replace h := hh
        clear hh
        replace hw := hw S9 hS9
        refine lv_iinc (i := 1) (v := (m1 + (1 : Int32))) (lv' := [(1, .int (m1 + (1 : Int32))), (0, .ref c0)]) B.1.1 B.1.2.1 dX4_init_54 hl (k := 1) rfl rfl (by decide) rfl (fun ls hl9 => ?_)
        replace hl := hl9
        clear hl9
        refine lv_goto (tgt := 32) B.1.1 B.1.2.1 dX4_init_57 (by decide) ?_
        exact ih (m1 + (1 : Int32)) _ _ _ ls _ _ (by omega) (by omega) h (lv_sub hl [1, 0] rfl) hw hk
  intro h hl hw
  replace hl : lv_has ls 2 [(0, .ref a0)] := hl
  refine lv_aload_n B.1.1 B.1.2.1 dX4_init_0 rfl (lv_at hl 0 rfl) ?_
  refine q_objInit B kM_RX4_3 kO_objinit kC_objinit hl.1 dX4_init_1 (Nat.le_of_ble_eq_true rfl) (Nat.le_of_ble_eq_true rfl) ?_
  refine lv_aload_n B.1.1 B.1.2.1 dX4_init_4 rfl (lv_at hl 0 rfl) ?_
  refine lv_iconst (v := (5 : Int32)) B.1.1 B.1.2.1 dX4_init_5 (by decide) ?_
  refine q_newq B h (kd := 8) (N' := 5) (by decide) (by decide) rfl kL_RX4_9 B.2.2.2.2.2.2.2.1 (by decide) (by decide) (Nat.le_of_ble_eq_true rfl) (Nat.le_of_ble_eq_true rfl) (Nat.le_of_ble_eq_true rfl) dX4_init_6 (fun q1 H hqq1 h9 => ?_)
  obtain ⟨S1, hS1, hh⟩ : ∃ z, z = nw S 8 5 q1 ∧ Hx D cs lo s z H _ := ⟨_, rfl, h9⟩
  clear h9
  replace h := hh
  clear hh
  replace hw := hw q1 hqq1 S1 hS1
  obtain ⟨hok, hw⟩ := hw
  refine q_putRF B h (ci := 4) (j := 0) (code := 128) (v := (some q1)) rfl inT_4 tyX4 tyX4_ok nmX4 (by decide) kF_RX4_11 rfl rfl (hin.trans rfl) rfl rfl rfl (by decide) rfl rfl dX4_init_9 hok.1 hok.2 (fun H locs h9 => ?_)
  obtain ⟨S2, hS2, hh⟩ : ∃ z, z = sR S1 128 a0 (some q1) ∧ Hx D cs lo s z H _ := ⟨_, rfl, h9⟩
  clear h9
  replace h := hh
  clear hh
  replace hw := hw S2 hS2
  refine lv_aload_n B.1.1 B.1.2.1 dX4_init_12 rfl (lv_at hl 0 rfl) ?_
  refine lv_iconst (v := (3 : Int32)) B.1.1 B.1.2.1 dX4_init_13 (by decide) ?_
  refine q_newq B h (kd := 9) (N' := 3) (by decide) (by decide) rfl kL_RX4_15 B.2.2.2.2.2.2.2.2.1 (by decide) (by decide) (Nat.le_of_ble_eq_true rfl) (Nat.le_of_ble_eq_true rfl) (Nat.le_of_ble_eq_true rfl) dX4_init_14 (fun q2 H hqq2 h9 => ?_)
  obtain ⟨S3, hS3, hh⟩ : ∃ z, z = nw S2 9 3 q2 ∧ Hx D cs lo s z H _ := ⟨_, rfl, h9⟩
  clear h9
  replace h := hh
  clear hh
  replace hw := hw q2 hqq2 S3 hS3
  obtain ⟨hok, hw⟩ := hw
  refine q_putRF B h (ci := 4) (j := 1) (code := 129) (v := (some q2)) rfl inT_4 tyX4 tyX4_ok nmX4 (by decide) kF_RX4_17 rfl rfl (hin.trans rfl) rfl rfl rfl (by decide) rfl rfl dX4_init_17 hok.1 hok.2 (fun H locs h9 => ?_)
  obtain ⟨S4, hS4, hh⟩ : ∃ z, z = sR S3 129 a0 (some q2) ∧ Hx D cs lo s z H _ := ⟨_, rfl, h9⟩
  clear h9
  replace h := hh
  clear hh
  replace hw := hw S4 hS4
  refine lv_aload_n B.1.1 B.1.2.1 dX4_init_20 rfl (lv_at hl 0 rfl) ?_
  refine lv_iconst (v := (0 : Int32)) B.1.1 B.1.2.1 dX4_init_21 (by decide) ?_
  obtain ⟨hok, hw⟩ := hw
  refine q_putI B h (ci := 4) (j := 2) (code := 130) (v := (0 : Int32)) rfl inT_4 tyX4 tyX4_ok nmX4 (by decide) kF_RX4_21 rfl rfl rfl rfl (by decide) (by first | rfl | decide) (by first | rfl | decide) dX4_init_22 hok.1 hok.2 (fun H locs h9 => ?_)
  obtain ⟨S5, hS5, hh⟩ : ∃ z, z = sI S4 130 a0 (0 : Int32) ∧ Hx D cs lo s z H _ := ⟨_, rfl, h9⟩
  clear h9
  replace h := hh
  clear hh
  replace hw := hw S5 hS5
  refine lv_aload_n B.1.1 B.1.2.1 dX4_init_25 rfl (lv_at hl 0 rfl) ?_
  refine lv_iconst (v := (0 : Int32)) B.1.1 B.1.2.1 dX4_init_26 (by decide) ?_
  obtain ⟨hok, hw⟩ := hw
  refine q_putI B h (ci := 4) (j := 3) (code := 131) (v := (0 : Int32)) rfl inT_4 tyX4 tyX4_ok nmX4 (by decide) kF_RX4_25 rfl rfl rfl rfl (by decide) (by first | rfl | decide) (by first | rfl | decide) dX4_init_27 hok.1 hok.2 (fun H locs h9 => ?_)
  obtain ⟨S6, hS6, hh⟩ : ∃ z, z = sI S5 131 a0 (0 : Int32) ∧ Hx D cs lo s z H _ := ⟨_, rfl, h9⟩
  clear h9
  replace h := hh
  clear hh
  replace hw := hw S6 hS6
  refine lv_iconst (v := (0 : Int32)) B.1.1 B.1.2.1 dX4_init_30 (by decide) ?_
  refine lv_istore_n (i := 1) (lv' := [(1, .int (0 : Int32)), (0, .ref a0)]) B.1.1 B.1.2.1 dX4_init_31 rfl hl (by decide) rfl (fun ls hl9 => ?_)
  replace hl := hl9
  clear hl9
  obtain ⟨n1, hn1, hw⟩ := hw
  refine L32 a0 _ n1 (0 : Int32) _ _ _ ls _ _ (by omega) (by omega) h (lv_sub hl [1, 0] rfl) hw (fun u1 S10 H locs ls cells slots hcc hss h9 hl9 hw9 => ?_)
  replace hw := hw9
  clear hw9
  replace h := h9
  clear h9
  replace hl := hl9
  clear hl9
  exact q_vret B hr hlk h hw dX4_init_60 (by omega) (by omega)
