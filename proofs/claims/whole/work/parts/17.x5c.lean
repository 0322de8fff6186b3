theorem dX5_begin_0 : decode cX5_begin 0 = .ok (.iload_n 1, 1) := by decide +kernel
theorem dX5_begin_1 : decode cX5_begin 1 = .ok (.iconst 4, 1) := by decide +kernel
theorem dX5_begin_2 : decode cX5_begin 2 = .ok (.bipush 32, 2) := by decide +kernel
theorem dX5_begin_4 : decode cX5_begin 4 = .ok (.invokestatic 69, 3) := by decide +kernel
theorem dX5_begin_7 : decode cX5_begin 7 = .ok (.ifCond .eq 56, 3) := by decide +kernel
theorem dX5_begin_10 : decode cX5_begin 10 = .ok (.iload_n 2, 1) := by decide +kernel
theorem dX5_begin_11 : decode cX5_begin 11 = .ok (.iconst 2, 1) := by decide +kernel
theorem dX5_begin_12 : decode cX5_begin 12 = .ok (.bipush 12, 2) := by decide +kernel
theorem dX5_begin_14 : decode cX5_begin 14 = .ok (.invokestatic 69, 3) := by decide +kernel
theorem dX5_begin_17 : decode cX5_begin 17 = .ok (.ifCond .eq 46, 3) := by decide +kernel
theorem dX5_begin_20 : decode cX5_begin 20 = .ok (.iload_n 3, 1) := by decide +kernel
theorem dX5_begin_21 : decode cX5_begin 21 = .ok (.iconst 0, 1) := by decide +kernel
theorem dX5_begin_22 : decode cX5_begin 22 = .ok (.iconst 3, 1) := by decide +kernel
theorem dX5_begin_23 : decode cX5_begin 23 = .ok (.invokestatic 69, 3) := by decide +kernel
theorem dX5_begin_26 : decode cX5_begin 26 = .ok (.ifCond .eq 37, 3) := by decide +kernel
theorem dX5_begin_29 : decode cX5_begin 29 = .ok (.iconst 2, 1) := by decide +kernel
theorem dX5_begin_30 : decode cX5_begin 30 = .ok (.iload_n 3, 1) := by decide +kernel
theorem dX5_begin_31 : decode cX5_begin 31 = .ok (.imul, 1) := by decide +kernel
theorem dX5_begin_32 : decode cX5_begin 32 = .ok (.iload_n 2, 1) := by decide +kernel
theorem dX5_begin_33 : decode cX5_begin 33 = .ok (.if_icmp .ge 30, 3) := by decide +kernel
theorem dX5_begin_36 : decode cX5_begin 36 = .ok (.iload 4, 2) := by decide +kernel
theorem dX5_begin_38 : decode cX5_begin 38 = .ok (.iconst 1, 1) := by decide +kernel
theorem dX5_begin_39 : decode cX5_begin 39 = .ok (.bipush 40, 2) := by decide +kernel
theorem dX5_begin_41 : decode cX5_begin 41 = .ok (.invokestatic 69, 3) := by decide +kernel
theorem dX5_begin_44 : decode cX5_begin 44 = .ok (.ifCond .eq 19, 3) := by decide +kernel
theorem dX5_begin_47 : decode cX5_begin 47 = .ok (.iload 5, 2) := by decide +kernel
theorem dX5_begin_49 : decode cX5_begin 49 = .ok (.iconst 0, 1) := by decide +kernel
theorem dX5_begin_50 : decode cX5_begin 50 = .ok (.sipush 10000, 3) := by decide +kernel
theorem dX5_begin_53 : decode cX5_begin 53 = .ok (.invokestatic 69, 3) := by decide +kernel
theorem dX5_begin_56 : decode cX5_begin 56 = .ok (.ifCond .eq 7, 3) := by decide +kernel
theorem dX5_begin_59 : decode cX5_begin 59 = .ok (.iconst 1, 1) := by decide +kernel
theorem dX5_begin_60 : decode cX5_begin 60 = .ok (.goto 4, 3) := by decide +kernel
theorem dX5_begin_63 : decode cX5_begin 63 = .ok (.iconst 0, 1) := by decide +kernel
theorem dX5_begin_64 : decode cX5_begin 64 = .ok (.istore 6, 2) := by decide +kernel
theorem dX5_begin_66 : decode cX5_begin 66 = .ok (.aload_n 0, 1) := by decide +kernel
theorem dX5_begin_67 : decode cX5_begin 67 = .ok (.iload 6, 2) := by decide +kernel
theorem dX5_begin_69 : decode cX5_begin 69 = .ok (.ifCond .ne 7, 3) := by decide +kernel
theorem dX5_begin_72 : decode cX5_begin 72 = .ok (.iconst 1, 1) := by decide +kernel
theorem dX5_begin_73 : decode cX5_begin 73 = .ok (.goto 16, 3) := by decide +kernel
theorem dX5_begin_76 : decode cX5_begin 76 = .ok (.aload_n 0, 1) := by decide +kernel
theorem dX5_begin_77 : decode cX5_begin 77 = .ok (.getfield 66, 3) := by decide +kernel
theorem dX5_begin_80 : decode cX5_begin 80 = .ok (.iconst 5, 1) := by decide +kernel
theorem dX5_begin_81 : decode cX5_begin 81 = .ok (.if_icmp .ne 7, 3) := by decide +kernel
theorem dX5_begin_84 : decode cX5_begin 84 = .ok (.iconst 2, 1) := by decide +kernel
theorem dX5_begin_85 : decode cX5_begin 85 = .ok (.goto 4, 3) := by decide +kernel
theorem dX5_begin_88 : decode cX5_begin 88 = .ok (.iconst 0, 1) := by decide +kernel
theorem dX5_begin_89 : decode cX5_begin 89 = .ok (.invokevirtual 91, 3) := by decide +kernel
theorem dX5_begin_92 : decode cX5_begin 92 = .ok (.ifCond .eq 5, 3) := by decide +kernel
theorem dX5_begin_95 : decode cX5_begin 95 = .ok (.iconst 0, 1) := by decide +kernel
theorem dX5_begin_96 : decode cX5_begin 96 = .ok (.ireturn, 1) := by decide +kernel
theorem dX5_begin_97 : decode cX5_begin 97 = .ok (.aload_n 0, 1) := by decide +kernel
theorem dX5_begin_98 : decode cX5_begin 98 = .ok (.getfield 7, 3) := by decide +kernel
theorem dX5_begin_101 : decode cX5_begin 101 = .ok (.aload_n 0, 1) := by decide +kernel
theorem dX5_begin_102 : decode cX5_begin 102 = .ok (.getfield 66, 3) := by decide +kernel
theorem dX5_begin_105 : decode cX5_begin 105 = .ok (.iload_n 1, 1) := by decide +kernel
theorem dX5_begin_106 : decode cX5_begin 106 = .ok (.iastore, 1) := by decide +kernel
theorem dX5_begin_107 : decode cX5_begin 107 = .ok (.aload_n 0, 1) := by decide +kernel
theorem dX5_begin_108 : decode cX5_begin 108 = .ok (.getfield 13, 3) := by decide +kernel
theorem dX5_begin_111 : decode cX5_begin 111 = .ok (.aload_n 0, 1) := by decide +kernel
theorem dX5_begin_112 : decode cX5_begin 112 = .ok (.getfield 66, 3) := by decide +kernel
theorem dX5_begin_115 : decode cX5_begin 115 = .ok (.iload_n 2, 1) := by decide +kernel
theorem dX5_begin_116 : decode cX5_begin 116 = .ok (.iastore, 1) := by decide +kernel
theorem dX5_begin_117 : decode cX5_begin 117 = .ok (.aload_n 0, 1) := by decide +kernel
theorem dX5_begin_118 : decode cX5_begin 118 = .ok (.getfield 16, 3) := by decide +kernel
theorem dX5_begin_121 : decode cX5_begin 121 = .ok (.aload_n 0, 1) := by decide +kernel
theorem dX5_begin_122 : decode cX5_begin 122 = .ok (.getfield 66, 3) := by decide +kernel
theorem dX5_begin_125 : decode cX5_begin 125 = .ok (.iload_n 3, 1) := by decide +kernel
theorem dX5_begin_126 : decode cX5_begin 126 = .ok (.iastore, 1) := by decide +kernel
theorem dX5_begin_127 : decode cX5_begin 127 = .ok (.aload_n 0, 1) := by decide +kernel
theorem dX5_begin_128 : decode cX5_begin 128 = .ok (.getfield 19, 3) := by decide +kernel
theorem dX5_begin_131 : decode cX5_begin 131 = .ok (.aload_n 0, 1) := by decide +kernel
theorem dX5_begin_132 : decode cX5_begin 132 = .ok (.getfield 66, 3) := by decide +kernel
theorem dX5_begin_135 : decode cX5_begin 135 = .ok (.iload 4, 2) := by decide +kernel
theorem dX5_begin_137 : decode cX5_begin 137 = .ok (.iastore, 1) := by decide +kernel
theorem dX5_begin_138 : decode cX5_begin 138 = .ok (.aload_n 0, 1) := by decide +kernel
theorem dX5_begin_139 : decode cX5_begin 139 = .ok (.getfield 22, 3) := by decide +kernel
theorem dX5_begin_142 : decode cX5_begin 142 = .ok (.aload_n 0, 1) := by decide +kernel
theorem dX5_begin_143 : decode cX5_begin 143 = .ok (.getfield 66, 3) := by decide +kernel
theorem dX5_begin_146 : decode cX5_begin 146 = .ok (.iload 5, 2) := by decide +kernel
theorem dX5_begin_148 : decode cX5_begin 148 = .ok (.iastore, 1) := by decide +kernel
theorem dX5_begin_149 : decode cX5_begin 149 = .ok (.aload_n 0, 1) := by decide +kernel
theorem dX5_begin_150 : decode cX5_begin 150 = .ok (.dup, 1) := by decide +kernel
theorem dX5_begin_151 : decode cX5_begin 151 = .ok (.getfield 66, 3) := by decide +kernel
theorem dX5_begin_154 : decode cX5_begin 154 = .ok (.iconst 1, 1) := by decide +kernel
theorem dX5_begin_155 : decode cX5_begin 155 = .ok (.iadd, 1) := by decide +kernel
theorem dX5_begin_156 : decode cX5_begin 156 = .ok (.putfield 66, 3) := by decide +kernel
theorem dX5_begin_159 : decode cX5_begin 159 = .ok (.aload_n 0, 1) := by decide +kernel
theorem dX5_begin_160 : decode cX5_begin 160 = .ok (.getfield 66, 3) := by decide +kernel
theorem dX5_begin_163 : decode cX5_begin 163 = .ok (.iconst 1, 1) := by decide +kernel
theorem dX5_begin_164 : decode cX5_begin 164 = .ok (.isub, 1) := by decide +kernel
theorem dX5_begin_165 : decode cX5_begin 165 = .ok (.ireturn, 1) := by decide +kernel
theorem dX5_fill_0 : decode cX5_fill 0 = .ok (.aload_n 0, 1) := by decide +kernel
theorem dX5_fill_1 : decode cX5_fill 1 = .ok (.iload_n 1, 1) := by decide +kernel
theorem dX5_fill_2 : decode cX5_fill 2 = .ok (.iload_n 2, 1) := by decide +kernel
theorem dX5_fill_3 : decode cX5_fill 3 = .ok (.iload_n 3, 1) := by decide +kernel
theorem dX5_fill_4 : decode cX5_fill 4 = .ok (.invokevirtual 94, 3) := by decide +kernel
theorem dX5_fill_7 : decode cX5_fill 7 = .ok (.istore 6, 2) := by decide +kernel
theorem dX5_fill_9 : decode cX5_fill 9 = .ok (.iload 6, 2) := by decide +kernel
theorem dX5_fill_11 : decode cX5_fill 11 = .ok (.ifCond .eq 35, 3) := by decide +kernel
theorem dX5_fill_14 : decode cX5_fill 14 = .ok (.iload 4, 2) := by decide +kernel
theorem dX5_fill_16 : decode cX5_fill 16 = .ok (.iload_n 3, 1) := by decide +kernel
theorem dX5_fill_17 : decode cX5_fill 17 = .ok (.iconst 1, 1) := by decide +kernel
theorem dX5_fill_18 : decode cX5_fill 18 = .ok (.iadd, 1) := by decide +kernel
theorem dX5_fill_19 : decode cX5_fill 19 = .ok (.aload_n 0, 1) := by decide +kernel
theorem dX5_fill_20 : decode cX5_fill 20 = .ok (.getfield 7, 3) := by decide +kernel
theorem dX5_fill_23 : decode cX5_fill 23 = .ok (.iload_n 1, 1) := by decide +kernel
theorem dX5_fill_24 : decode cX5_fill 24 = .ok (.iaload, 1) := by decide +kernel
theorem dX5_fill_25 : decode cX5_fill 25 = .ok (.invokestatic 69, 3) := by decide +kernel
theorem dX5_fill_28 : decode cX5_fill 28 = .ok (.ifCond .eq 18, 3) := by decide +kernel
theorem dX5_fill_31 : decode cX5_fill 31 = .ok (.iload 5, 2) := by decide +kernel
theorem dX5_fill_33 : decode cX5_fill 33 = .ok (.iconst 0, 1) := by decide +kernel
theorem dX5_fill_34 : decode cX5_fill 34 = .ok (.bipush 15, 2) := by decide +kernel
theorem dX5_fill_36 : decode cX5_fill 36 = .ok (.invokestatic 69, 3) := by decide +kernel
theorem dX5_fill_39 : decode cX5_fill 39 = .ok (.ifCond .eq 7, 3) := by decide +kernel
theorem dX5_fill_42 : decode cX5_fill 42 = .ok (.iconst 1, 1) := by decide +kernel
theorem dX5_fill_43 : decode cX5_fill 43 = .ok (.goto 4, 3) := by decide +kernel
theorem dX5_fill_46 : decode cX5_fill 46 = .ok (.iconst 0, 1) := by decide +kernel
theorem dX5_fill_47 : decode cX5_fill 47 = .ok (.istore 7, 2) := by decide +kernel
theorem dX5_fill_49 : decode cX5_fill 49 = .ok (.aload_n 0, 1) := by decide +kernel
theorem dX5_fill_50 : decode cX5_fill 50 = .ok (.iload 6, 2) := by decide +kernel
theorem dX5_fill_52 : decode cX5_fill 52 = .ok (.ifCond .ne 7, 3) := by decide +kernel
theorem dX5_fill_55 : decode cX5_fill 55 = .ok (.iconst 1, 1) := by decide +kernel
theorem dX5_fill_56 : decode cX5_fill 56 = .ok (.goto 13, 3) := by decide +kernel
theorem dX5_fill_59 : decode cX5_fill 59 = .ok (.iload 7, 2) := by decide +kernel
theorem dX5_fill_61 : decode cX5_fill 61 = .ok (.ifCond .eq 7, 3) := by decide +kernel
theorem dX5_fill_64 : decode cX5_fill 64 = .ok (.iconst 0, 1) := by decide +kernel
theorem dX5_fill_65 : decode cX5_fill 65 = .ok (.goto 4, 3) := by decide +kernel
theorem dX5_fill_68 : decode cX5_fill 68 = .ok (.iconst 2, 1) := by decide +kernel
theorem dX5_fill_69 : decode cX5_fill 69 = .ok (.invokevirtual 91, 3) := by decide +kernel
theorem dX5_fill_72 : decode cX5_fill 72 = .ok (.ifCond .eq 5, 3) := by decide +kernel
theorem dX5_fill_75 : decode cX5_fill 75 = .ok (.iconst 0, 1) := by decide +kernel
theorem dX5_fill_76 : decode cX5_fill 76 = .ok (.ireturn, 1) := by decide +kernel
theorem dX5_fill_77 : decode cX5_fill 77 = .ok (.iconst 0, 1) := by decide +kernel
theorem dX5_fill_78 : decode cX5_fill 78 = .ok (.istore 8, 2) := by decide +kernel
theorem dX5_fill_80 : decode cX5_fill 80 = .ok (.iload_n 3, 1) := by decide +kernel
theorem dX5_fill_81 : decode cX5_fill 81 = .ok (.istore 9, 2) := by decide +kernel
theorem dX5_fill_83 : decode cX5_fill 83 = .ok (.iload 9, 2) := by decide +kernel
theorem dX5_fill_85 : decode cX5_fill 85 = .ok (.iload 4, 2) := by decide +kernel
theorem dX5_fill_87 : decode cX5_fill 87 = .ok (.if_icmp .ge 50, 3) := by decide +kernel
theorem dX5_fill_90 : decode cX5_fill 90 = .ok (.iload 8, 2) := by decide +kernel
theorem dX5_fill_92 : decode cX5_fill 92 = .ok (.aload_n 0, 1) := by decide +kernel
theorem dX5_fill_93 : decode cX5_fill 93 = .ok (.getfield 25, 3) := by decide +kernel
theorem dX5_fill_96 : decode cX5_fill 96 = .ok (.iload_n 1, 1) := by decide +kernel
theorem dX5_fill_97 : decode cX5_fill 97 = .ok (.iload_n 2, 1) := by decide +kernel
theorem dX5_fill_98 : decode cX5_fill 98 = .ok (.iload 9, 2) := by decide +kernel
theorem dX5_fill_100 : decode cX5_fill 100 = .ok (.invokestatic 97, 3) := by decide +kernel
theorem dX5_fill_103 : decode cX5_fill 103 = .ok (.iaload, 1) := by decide +kernel
theorem dX5_fill_104 : decode cX5_fill 104 = .ok (.iload 5, 2) := by decide +kernel
theorem dX5_fill_106 : decode cX5_fill 106 = .ok (.if_icmp .ne 7, 3) := by decide +kernel
theorem dX5_fill_109 : decode cX5_fill 109 = .ok (.iconst 0, 1) := by decide +kernel
theorem dX5_fill_110 : decode cX5_fill 110 = .ok (.goto 4, 3) := by decide +kernel
theorem dX5_fill_113 : decode cX5_fill 113 = .ok (.iconst 1, 1) := by decide +kernel
theorem dX5_fill_114 : decode cX5_fill 114 = .ok (.iadd, 1) := by decide +kernel
theorem dX5_fill_115 : decode cX5_fill 115 = .ok (.istore 8, 2) := by decide +kernel
theorem dX5_fill_117 : decode cX5_fill 117 = .ok (.aload_n 0, 1) := by decide +kernel
theorem dX5_fill_118 : decode cX5_fill 118 = .ok (.getfield 25, 3) := by decide +kernel
theorem dX5_fill_121 : decode cX5_fill 121 = .ok (.iload_n 1, 1) := by decide +kernel
theorem dX5_fill_122 : decode cX5_fill 122 = .ok (.iload_n 2, 1) := by decide +kernel
theorem dX5_fill_123 : decode cX5_fill 123 = .ok (.iload 9, 2) := by decide +kernel
theorem dX5_fill_125 : decode cX5_fill 125 = .ok (.invokestatic 97, 3) := by decide +kernel
theorem dX5_fill_128 : decode cX5_fill 128 = .ok (.iload 5, 2) := by decide +kernel
theorem dX5_fill_130 : decode cX5_fill 130 = .ok (.iastore, 1) := by decide +kernel
theorem dX5_fill_131 : decode cX5_fill 131 = .ok (.iinc 9 1, 3) := by decide +kernel
theorem dX5_fill_134 : decode cX5_fill 134 = .ok (.goto (-51), 3) := by decide +kernel
theorem dX5_fill_137 : decode cX5_fill 137 = .ok (.iload 8, 2) := by decide +kernel
theorem dX5_fill_139 : decode cX5_fill 139 = .ok (.ireturn, 1) := by decide +kernel
theorem dX5_strips_0 : decode cX5_strips 0 = .ok (.aload_n 0, 1) := by decide +kernel
theorem dX5_strips_1 : decode cX5_strips 1 = .ok (.aload_n 0, 1) := by decide +kernel
theorem dX5_strips_2 : decode cX5_strips 2 = .ok (.iload_n 1, 1) := by decide +kernel
theorem dX5_strips_3 : decode cX5_strips 3 = .ok (.invokevirtual 73, 3) := by decide +kernel
theorem dX5_strips_6 : decode cX5_strips 6 = .ok (.ifCond .eq 7, 3) := by decide +kernel
theorem dX5_strips_9 : decode cX5_strips 9 = .ok (.iconst 0, 1) := by decide +kernel
theorem dX5_strips_10 : decode cX5_strips 10 = .ok (.goto 4, 3) := by decide +kernel
theorem dX5_strips_13 : decode cX5_strips 13 = .ok (.iconst 1, 1) := by decide +kernel
theorem dX5_strips_14 : decode cX5_strips 14 = .ok (.invokevirtual 91, 3) := by decide +kernel
theorem dX5_strips_17 : decode cX5_strips 17 = .ok (.ifCond .eq 7, 3) := by decide +kernel
theorem dX5_strips_20 : decode cX5_strips 20 = .ok (.iconst 0, 1) := by decide +kernel
theorem dX5_strips_21 : decode cX5_strips 21 = .ok (.goto 8, 3) := by decide +kernel
theorem dX5_strips_24 : decode cX5_strips 24 = .ok (.aload_n 0, 1) := by decide +kernel
theorem dX5_strips_25 : decode cX5_strips 25 = .ok (.iload_n 1, 1) := by decide +kernel
theorem dX5_strips_26 : decode cX5_strips 26 = .ok (.invokevirtual 77, 3) := by decide +kernel
theorem dX5_strips_29 : decode cX5_strips 29 = .ok (.ireturn, 1) := by decide +kernel
theorem dX5_toLay_0 : decode cX5_toLay 0 = .ok (.aload_n 0, 1) := by decide +kernel
theorem dX5_toLay_1 : decode cX5_toLay 1 = .ok (.iload_n 1, 1) := by decide +kernel
theorem dX5_toLay_2 : decode cX5_toLay 2 = .ok (.iload_n 2, 1) := by decide +kernel
theorem dX5_toLay_3 : decode cX5_toLay 3 = .ok (.invokevirtual 104, 3) := by decide +kernel
theorem dX5_toLay_6 : decode cX5_toLay 6 = .ok (.ifCond .eq 18, 3) := by decide +kernel
theorem dX5_toLay_9 : decode cX5_toLay 9 = .ok (.aload_n 0, 1) := by decide +kernel
theorem dX5_toLay_10 : decode cX5_toLay 10 = .ok (.iload_n 1, 1) := by decide +kernel
theorem dX5_toLay_11 : decode cX5_toLay 11 = .ok (.iload_n 3, 1) := by decide +kernel
theorem dX5_toLay_12 : decode cX5_toLay 12 = .ok (.iload 4, 2) := by decide +kernel
theorem dX5_toLay_14 : decode cX5_toLay 14 = .ok (.invokevirtual 94, 3) := by decide +kernel
theorem dX5_toLay_17 : decode cX5_toLay 17 = .ok (.ifCond .eq 7, 3) := by decide +kernel
theorem dX5_toLay_20 : decode cX5_toLay 20 = .ok (.iconst 1, 1) := by decide +kernel
theorem dX5_toLay_21 : decode cX5_toLay 21 = .ok (.goto 4, 3) := by decide +kernel
theorem dX5_toLay_24 : decode cX5_toLay 24 = .ok (.iconst 0, 1) := by decide +kernel
theorem dX5_toLay_25 : decode cX5_toLay 25 = .ok (.istore 5, 2) := by decide +kernel
theorem dX5_toLay_27 : decode cX5_toLay 27 = .ok (.aload_n 0, 1) := by decide +kernel
theorem dX5_toLay_28 : decode cX5_toLay 28 = .ok (.iload 5, 2) := by decide +kernel
theorem dX5_toLay_30 : decode cX5_toLay 30 = .ok (.ifCond .eq 7, 3) := by decide +kernel
theorem dX5_toLay_33 : decode cX5_toLay 33 = .ok (.iconst 0, 1) := by decide +kernel
theorem dX5_toLay_34 : decode cX5_toLay 34 = .ok (.goto 4, 3) := by decide +kernel
theorem dX5_toLay_37 : decode cX5_toLay 37 = .ok (.iconst 1, 1) := by decide +kernel
theorem dX5_toLay_38 : decode cX5_toLay 38 = .ok (.invokevirtual 91, 3) := by decide +kernel
theorem dX5_toLay_41 : decode cX5_toLay 41 = .ok (.ifCond .eq 7, 3) := by decide +kernel
theorem dX5_toLay_44 : decode cX5_toLay 44 = .ok (.iconst 0, 1) := by decide +kernel
theorem dX5_toLay_45 : decode cX5_toLay 45 = .ok (.goto 12, 3) := by decide +kernel
theorem dX5_toLay_48 : decode cX5_toLay 48 = .ok (.aload_n 0, 1) := by decide +kernel
theorem dX5_toLay_49 : decode cX5_toLay 49 = .ok (.iload_n 1, 1) := by decide +kernel
theorem dX5_toLay_50 : decode cX5_toLay 50 = .ok (.iload_n 2, 1) := by decide +kernel
theorem dX5_toLay_51 : decode cX5_toLay 51 = .ok (.iload_n 3, 1) := by decide +kernel
theorem dX5_toLay_52 : decode cX5_toLay 52 = .ok (.iload 4, 2) := by decide +kernel
theorem dX5_toLay_54 : decode cX5_toLay 54 = .ok (.invokevirtual 108, 3) := by decide +kernel
theorem dX5_toLay_57 : decode cX5_toLay 57 = .ok (.ireturn, 1) := by decide +kernel
theorem dX5_setGain_0 : decode cX5_setGain 0 = .ok (.iload_n 1, 1) := by decide +kernel
theorem dX5_setGain_1 : decode cX5_setGain 1 = .ok (.invokestatic 112, 3) := by decide +kernel
theorem dX5_setGain_4 : decode cX5_setGain 4 = .ok (.istore_n 3, 1) := by decide +kernel
theorem dX5_setGain_5 : decode cX5_setGain 5 = .ok (.aload_n 0, 1) := by decide +kernel
theorem dX5_setGain_6 : decode cX5_setGain 6 = .ok (.iload_n 3, 1) := by decide +kernel
theorem dX5_setGain_7 : decode cX5_setGain 7 = .ok (.ifCond .ne 7, 3) := by decide +kernel
theorem dX5_setGain_10 : decode cX5_setGain 10 = .ok (.iconst 1, 1) := by decide +kernel
theorem dX5_setGain_11 : decode cX5_setGain 11 = .ok (.goto 20, 3) := by decide +kernel
theorem dX5_setGain_14 : decode cX5_setGain 14 = .ok (.iload_n 2, 1) := by decide +kernel
theorem dX5_setGain_15 : decode cX5_setGain 15 = .ok (.bipush 50, 2) := by decide +kernel
theorem dX5_setGain_17 : decode cX5_setGain 17 = .ok (.sipush 200, 3) := by decide +kernel
theorem dX5_setGain_20 : decode cX5_setGain 20 = .ok (.invokestatic 69, 3) := by decide +kernel
theorem dX5_setGain_23 : decode cX5_setGain 23 = .ok (.ifCond .eq 7, 3) := by decide +kernel
theorem dX5_setGain_26 : decode cX5_setGain 26 = .ok (.iconst 0, 1) := by decide +kernel
theorem dX5_setGain_27 : decode cX5_setGain 27 = .ok (.goto 4, 3) := by decide +kernel
theorem dX5_setGain_30 : decode cX5_setGain 30 = .ok (.iconst 2, 1) := by decide +kernel
theorem dX5_setGain_31 : decode cX5_setGain 31 = .ok (.invokevirtual 91, 3) := by decide +kernel
theorem dX5_setGain_34 : decode cX5_setGain 34 = .ok (.ifCond .eq 5, 3) := by decide +kernel
theorem dX5_setGain_37 : decode cX5_setGain 37 = .ok (.iconst 0, 1) := by decide +kernel
theorem dX5_setGain_38 : decode cX5_setGain 38 = .ok (.ireturn, 1) := by decide +kernel
theorem dX5_setGain_39 : decode cX5_setGain 39 = .ok (.aload_n 0, 1) := by decide +kernel
theorem dX5_setGain_40 : decode cX5_setGain 40 = .ok (.getfield 40, 3) := by decide +kernel
theorem dX5_setGain_43 : decode cX5_setGain 43 = .ok (.iload_n 1, 1) := by decide +kernel
theorem dX5_setGain_44 : decode cX5_setGain 44 = .ok (.iaload, 1) := by decide +kernel
theorem dX5_setGain_45 : decode cX5_setGain 45 = .ok (.istore 4, 2) := by decide +kernel
theorem dX5_setGain_47 : decode cX5_setGain 47 = .ok (.aload_n 0, 1) := by decide +kernel
theorem dX5_setGain_48 : decode cX5_setGain 48 = .ok (.getfield 40, 3) := by decide +kernel
theorem dX5_setGain_51 : decode cX5_setGain 51 = .ok (.iload_n 1, 1) := by decide +kernel
theorem dX5_setGain_52 : decode cX5_setGain 52 = .ok (.iload_n 2, 1) := by decide +kernel
theorem dX5_setGain_53 : decode cX5_setGain 53 = .ok (.iastore, 1) := by decide +kernel
theorem dX5_setGain_54 : decode cX5_setGain 54 = .ok (.iload 4, 2) := by decide +kernel
theorem dX5_setGain_56 : decode cX5_setGain 56 = .ok (.ireturn, 1) := by decide +kernel
theorem dX5_match_0 : decode cX5_match 0 = .ok (.aload_n 0, 1) := by decide +kernel
theorem dX5_match_1 : decode cX5_match 1 = .ok (.iload_n 1, 1) := by decide +kernel
theorem dX5_match_2 : decode cX5_match 2 = .ok (.invokestatic 112, 3) := by decide +kernel
theorem dX5_match_5 : decode cX5_match 5 = .ok (.ifCond .eq 7, 3) := by decide +kernel
theorem dX5_match_8 : decode cX5_match 8 = .ok (.iconst 0, 1) := by decide +kernel
theorem dX5_match_9 : decode cX5_match 9 = .ok (.goto 4, 3) := by decide +kernel
theorem dX5_match_12 : decode cX5_match 12 = .ok (.iconst 1, 1) := by decide +kernel
theorem dX5_match_13 : decode cX5_match 13 = .ok (.invokevirtual 91, 3) := by decide +kernel
theorem dX5_match_16 : decode cX5_match 16 = .ok (.ifCond .eq 5, 3) := by decide +kernel
theorem dX5_match_19 : decode cX5_match 19 = .ok (.iconst 0, 1) := by decide +kernel
theorem dX5_match_20 : decode cX5_match 20 = .ok (.ireturn, 1) := by decide +kernel
theorem dX5_match_21 : decode cX5_match 21 = .ok (.aload_n 0, 1) := by decide +kernel
theorem dX5_match_22 : decode cX5_match 22 = .ok (.getfield 43, 3) := by decide +kernel
theorem dX5_match_25 : decode cX5_match 25 = .ok (.iload_n 1, 1) := by decide +kernel
theorem dX5_match_26 : decode cX5_match 26 = .ok (.sipush 10000, 3) := by decide +kernel
theorem dX5_match_29 : decode cX5_match 29 = .ok (.aload_n 0, 1) := by decide +kernel
theorem dX5_match_30 : decode cX5_match 30 = .ok (.getfield 40, 3) := by decide +kernel
theorem dX5_match_33 : decode cX5_match 33 = .ok (.iload_n 1, 1) := by decide +kernel
theorem dX5_match_34 : decode cX5_match 34 = .ok (.iaload, 1) := by decide +kernel
theorem dX5_match_35 : decode cX5_match 35 = .ok (.iadd, 1) := by decide +kernel
theorem dX5_match_36 : decode cX5_match 36 = .ok (.iconst 1, 1) := by decide +kernel
theorem dX5_match_37 : decode cX5_match 37 = .ok (.isub, 1) := by decide +kernel
theorem dX5_match_38 : decode cX5_match 38 = .ok (.aload_n 0, 1) := by decide +kernel
theorem dX5_match_39 : decode cX5_match 39 = .ok (.getfield 40, 3) := by decide +kernel
theorem dX5_match_42 : decode cX5_match 42 = .ok (.iload_n 1, 1) := by decide +kernel
theorem dX5_match_43 : decode cX5_match 43 = .ok (.iaload, 1) := by decide +kernel
theorem dX5_match_44 : decode cX5_match 44 = .ok (.idiv, 1) := by decide +kernel
theorem dX5_match_45 : decode cX5_match 45 = .ok (.iastore, 1) := by decide +kernel
theorem dX5_match_46 : decode cX5_match 46 = .ok (.aload_n 0, 1) := by decide +kernel
theorem dX5_match_47 : decode cX5_match 47 = .ok (.getfield 43, 3) := by decide +kernel
theorem dX5_match_50 : decode cX5_match 50 = .ok (.iload_n 1, 1) := by decide +kernel
theorem dX5_match_51 : decode cX5_match 51 = .ok (.iaload, 1) := by decide +kernel
theorem dX5_match_52 : decode cX5_match 52 = .ok (.ireturn, 1) := by decide +kernel
theorem dX5_block_0 : decode cX5_block 0 = .ok (.aload_n 0, 1) := by decide +kernel
theorem dX5_block_1 : decode cX5_block 1 = .ok (.iload_n 1, 1) := by decide +kernel
theorem dX5_block_2 : decode cX5_block 2 = .ok (.invokestatic 112, 3) := by decide +kernel
theorem dX5_block_5 : decode cX5_block 5 = .ok (.ifCond .eq 14, 3) := by decide +kernel
theorem dX5_block_8 : decode cX5_block 8 = .ok (.iload_n 2, 1) := by decide +kernel
theorem dX5_block_9 : decode cX5_block 9 = .ok (.invokestatic 81, 3) := by decide +kernel
theorem dX5_block_12 : decode cX5_block 12 = .ok (.ifCond .eq 7, 3) := by decide +kernel
theorem dX5_block_15 : decode cX5_block 15 = .ok (.iconst 0, 1) := by decide +kernel
theorem dX5_block_16 : decode cX5_block 16 = .ok (.goto 4, 3) := by decide +kernel
theorem dX5_block_19 : decode cX5_block 19 = .ok (.iconst 1, 1) := by decide +kernel
theorem dX5_block_20 : decode cX5_block 20 = .ok (.invokevirtual 91, 3) := by decide +kernel
theorem dX5_block_23 : decode cX5_block 23 = .ok (.ifCond .eq 5, 3) := by decide +kernel
theorem dX5_block_26 : decode cX5_block 26 = .ok (.iconst 0, 1) := by decide +kernel
theorem dX5_block_27 : decode cX5_block 27 = .ok (.ireturn, 1) := by decide +kernel
theorem dX5_block_28 : decode cX5_block 28 = .ok (.aload_n 0, 1) := by decide +kernel
theorem dX5_block_29 : decode cX5_block 29 = .ok (.getfield 46, 3) := by decide +kernel
theorem dX5_block_32 : decode cX5_block 32 = .ok (.bipush 8, 2) := by decide +kernel
theorem dX5_block_34 : decode cX5_block 34 = .ok (.iload_n 1, 1) := by decide +kernel
theorem dX5_block_35 : decode cX5_block 35 = .ok (.imul, 1) := by decide +kernel
theorem dX5_block_36 : decode cX5_block 36 = .ok (.iload_n 2, 1) := by decide +kernel
theorem dX5_block_37 : decode cX5_block 37 = .ok (.iadd, 1) := by decide +kernel
theorem dX5_block_38 : decode cX5_block 38 = .ok (.iconst 1, 1) := by decide +kernel
theorem dX5_block_39 : decode cX5_block 39 = .ok (.bastore, 1) := by decide +kernel
theorem dX5_block_40 : decode cX5_block 40 = .ok (.aload_n 0, 1) := by decide +kernel
theorem dX5_block_41 : decode cX5_block 41 = .ok (.iload_n 1, 1) := by decide +kernel
theorem dX5_block_42 : decode cX5_block 42 = .ok (.invokevirtual 115, 3) := by decide +kernel
theorem dX5_block_45 : decode cX5_block 45 = .ok (.ireturn, 1) := by decide +kernel
theorem dX5_clean_0 : decode cX5_clean 0 = .ok (.iload_n 1, 1) := by decide +kernel
theorem dX5_clean_1 : decode cX5_clean 1 = .ok (.invokestatic 112, 3) := by decide +kernel
theorem dX5_clean_4 : decode cX5_clean 4 = .ok (.istore_n 2, 1) := by decide +kernel
theorem dX5_clean_5 : decode cX5_clean 5 = .ok (.aload_n 0, 1) := by decide +kernel
theorem dX5_clean_6 : decode cX5_clean 6 = .ok (.iload_n 2, 1) := by decide +kernel
theorem dX5_clean_7 : decode cX5_clean 7 = .ok (.ifCond .ne 7, 3) := by decide +kernel
theorem dX5_clean_10 : decode cX5_clean 10 = .ok (.iconst 1, 1) := by decide +kernel
theorem dX5_clean_11 : decode cX5_clean 11 = .ok (.goto 18, 3) := by decide +kernel
theorem dX5_clean_14 : decode cX5_clean 14 = .ok (.aload_n 0, 1) := by decide +kernel
theorem dX5_clean_15 : decode cX5_clean 15 = .ok (.getfield 53, 3) := by decide +kernel
theorem dX5_clean_18 : decode cX5_clean 18 = .ok (.iload_n 1, 1) := by decide +kernel
theorem dX5_clean_19 : decode cX5_clean 19 = .ok (.iaload, 1) := by decide +kernel
theorem dX5_clean_20 : decode cX5_clean 20 = .ok (.iconst (-1), 1) := by decide +kernel
theorem dX5_clean_21 : decode cX5_clean 21 = .ok (.if_icmp .ne 7, 3) := by decide +kernel
theorem dX5_clean_24 : decode cX5_clean 24 = .ok (.iconst 0, 1) := by decide +kernel
theorem dX5_clean_25 : decode cX5_clean 25 = .ok (.goto 4, 3) := by decide +kernel
theorem dX5_clean_28 : decode cX5_clean 28 = .ok (.iconst 2, 1) := by decide +kernel
theorem dX5_clean_29 : decode cX5_clean 29 = .ok (.invokevirtual 91, 3) := by decide +kernel
theorem dX5_clean_32 : decode cX5_clean 32 = .ok (.ifCond .eq 5, 3) := by decide +kernel
theorem dX5_clean_35 : decode cX5_clean 35 = .ok (.iconst 0, 1) := by decide +kernel
theorem dX5_clean_36 : decode cX5_clean 36 = .ok (.ireturn, 1) := by decide +kernel
theorem dX5_clean_37 : decode cX5_clean 37 = .ok (.aload_n 0, 1) := by decide +kernel
theorem dX5_clean_38 : decode cX5_clean 38 = .ok (.iload_n 1, 1) := by decide +kernel
theorem dX5_clean_39 : decode cX5_clean 39 = .ok (.invokevirtual 115, 3) := by decide +kernel
theorem dX5_clean_42 : decode cX5_clean 42 = .ok (.istore_n 3, 1) := by decide +kernel
theorem dX5_clean_43 : decode cX5_clean 43 = .ok (.iconst 0, 1) := by decide +kernel
theorem dX5_clean_44 : decode cX5_clean 44 = .ok (.istore 4, 2) := by decide +kernel
theorem dX5_clean_46 : decode cX5_clean 46 = .ok (.iload 4, 2) := by decide +kernel
theorem dX5_clean_48 : decode cX5_clean 48 = .ok (.bipush 8, 2) := by decide +kernel
theorem dX5_clean_50 : decode cX5_clean 50 = .ok (.if_icmp .ge 22, 3) := by decide +kernel
theorem dX5_clean_53 : decode cX5_clean 53 = .ok (.aload_n 0, 1) := by decide +kernel
theorem dX5_clean_54 : decode cX5_clean 54 = .ok (.getfield 46, 3) := by decide +kernel
theorem dX5_clean_57 : decode cX5_clean 57 = .ok (.bipush 8, 2) := by decide +kernel
theorem dX5_clean_59 : decode cX5_clean 59 = .ok (.iload_n 1, 1) := by decide +kernel
theorem dX5_clean_60 : decode cX5_clean 60 = .ok (.imul, 1) := by decide +kernel
theorem dX5_clean_61 : decode cX5_clean 61 = .ok (.iload 4, 2) := by decide +kernel
theorem dX5_clean_63 : decode cX5_clean 63 = .ok (.iadd, 1) := by decide +kernel
theorem dX5_clean_64 : decode cX5_clean 64 = .ok (.iconst 0, 1) := by decide +kernel
theorem dX5_clean_65 : decode cX5_clean 65 = .ok (.bastore, 1) := by decide +kernel
theorem dX5_clean_66 : decode cX5_clean 66 = .ok (.iinc 4 1, 3) := by decide +kernel
theorem dX5_clean_69 : decode cX5_clean 69 = .ok (.goto (-23), 3) := by decide +kernel
theorem dX5_clean_72 : decode cX5_clean 72 = .ok (.aload_n 0, 1) := by decide +kernel
theorem dX5_clean_73 : decode cX5_clean 73 = .ok (.getfield 50, 3) := by decide +kernel
theorem dX5_clean_76 : decode cX5_clean 76 = .ok (.iload_n 1, 1) := by decide +kernel
theorem dX5_clean_77 : decode cX5_clean 77 = .ok (.dup2, 1) := by decide +kernel
theorem dX5_clean_78 : decode cX5_clean 78 = .ok (.iaload, 1) := by decide +kernel
theorem dX5_clean_79 : decode cX5_clean 79 = .ok (.bipush 20, 2) := by decide +kernel
theorem dX5_clean_81 : decode cX5_clean 81 = .ok (.iadd, 1) := by decide +kernel
theorem dX5_clean_82 : decode cX5_clean 82 = .ok (.iastore, 1) := by decide +kernel
theorem dX5_clean_83 : decode cX5_clean 83 = .ok (.iload_n 3, 1) := by decide +kernel
theorem dX5_clean_84 : decode cX5_clean 84 = .ok (.ireturn, 1) := by decide +kernel
theorem dX5_patch_0 : decode cX5_patch 0 = .ok (.iload_n 1, 1) := by decide +kernel
theorem dX5_patch_1 : decode cX5_patch 1 = .ok (.invokestatic 112, 3) := by decide +kernel
theorem dX5_patch_4 : decode cX5_patch 4 = .ok (.ifCond .eq 14, 3) := by decide +kernel
theorem dX5_patch_7 : decode cX5_patch 7 = .ok (.iload_n 2, 1) := by decide +kernel
theorem dX5_patch_8 : decode cX5_patch 8 = .ok (.invokestatic 81, 3) := by decide +kernel
theorem dX5_patch_11 : decode cX5_patch 11 = .ok (.ifCond .eq 7, 3) := by decide +kernel
theorem dX5_patch_14 : decode cX5_patch 14 = .ok (.iconst 1, 1) := by decide +kernel
theorem dX5_patch_15 : decode cX5_patch 15 = .ok (.goto 4, 3) := by decide +kernel
theorem dX5_patch_18 : decode cX5_patch 18 = .ok (.iconst 0, 1) := by decide +kernel
theorem dX5_patch_19 : decode cX5_patch 19 = .ok (.istore 4, 2) := by decide +kernel
theorem dX5_patch_21 : decode cX5_patch 21 = .ok (.aload_n 0, 1) := by decide +kernel
theorem dX5_patch_22 : decode cX5_patch 22 = .ok (.iload 4, 2) := by decide +kernel
theorem dX5_patch_24 : decode cX5_patch 24 = .ok (.ifCond .ne 7, 3) := by decide +kernel
theorem dX5_patch_27 : decode cX5_patch 27 = .ok (.iconst 1, 1) := by decide +kernel
theorem dX5_patch_28 : decode cX5_patch 28 = .ok (.goto 18, 3) := by decide +kernel
theorem dX5_patch_31 : decode cX5_patch 31 = .ok (.iload_n 3, 1) := by decide +kernel
theorem dX5_patch_32 : decode cX5_patch 32 = .ok (.iconst 0, 1) := by decide +kernel
theorem dX5_patch_33 : decode cX5_patch 33 = .ok (.bipush 15, 2) := by decide +kernel
theorem dX5_patch_35 : decode cX5_patch 35 = .ok (.invokestatic 69, 3) := by decide +kernel
theorem dX5_patch_38 : decode cX5_patch 38 = .ok (.ifCond .eq 7, 3) := by decide +kernel
theorem dX5_patch_41 : decode cX5_patch 41 = .ok (.iconst 0, 1) := by decide +kernel
theorem dX5_patch_42 : decode cX5_patch 42 = .ok (.goto 4, 3) := by decide +kernel
theorem dX5_patch_45 : decode cX5_patch 45 = .ok (.iconst 2, 1) := by decide +kernel
theorem dX5_patch_46 : decode cX5_patch 46 = .ok (.invokevirtual 91, 3) := by decide +kernel
theorem dX5_patch_49 : decode cX5_patch 49 = .ok (.ifCond .eq 5, 3) := by decide +kernel
theorem dX5_patch_52 : decode cX5_patch 52 = .ok (.iconst 0, 1) := by decide +kernel
theorem dX5_patch_53 : decode cX5_patch 53 = .ok (.ireturn, 1) := by decide +kernel
theorem dX5_patch_54 : decode cX5_patch 54 = .ok (.iconst 0, 1) := by decide +kernel
theorem dX5_patch_55 : decode cX5_patch 55 = .ok (.istore 5, 2) := by decide +kernel
theorem dX5_patch_57 : decode cX5_patch 57 = .ok (.iload 5, 2) := by decide +kernel
theorem dX5_patch_59 : decode cX5_patch 59 = .ok (.bipush 8, 2) := by decide +kernel
theorem dX5_patch_61 : decode cX5_patch 61 = .ok (.if_icmp .ge 17, 3) := by decide +kernel
theorem dX5_patch_64 : decode cX5_patch 64 = .ok (.aload_n 0, 1) := by decide +kernel
theorem dX5_patch_65 : decode cX5_patch 65 = .ok (.iload_n 1, 1) := by decide +kernel
theorem dX5_patch_66 : decode cX5_patch 66 = .ok (.iload 5, 2) := by decide +kernel
theorem dX5_patch_68 : decode cX5_patch 68 = .ok (.iload_n 3, 1) := by decide +kernel
theorem dX5_patch_69 : decode cX5_patch 69 = .ok (.invokevirtual 121, 3) := by decide +kernel
theorem dX5_patch_72 : decode cX5_patch 72 = .ok (.iinc 5 1, 3) := by decide +kernel
theorem dX5_patch_75 : decode cX5_patch 75 = .ok (.goto (-18), 3) := by decide +kernel
theorem dX5_patch_78 : decode cX5_patch 78 = .ok (.aload_n 0, 1) := by decide +kernel
theorem dX5_patch_79 : decode cX5_patch 79 = .ok (.iload_n 1, 1) := by decide +kernel
theorem dX5_patch_80 : decode cX5_patch 80 = .ok (.iload_n 2, 1) := by decide +kernel
theorem dX5_patch_81 : decode cX5_patch 81 = .ok (.invokevirtual 125, 3) := by decide +kernel
theorem dX5_patch_84 : decode cX5_patch 84 = .ok (.ireturn, 1) := by decide +kernel
def wX5_begin_J89 (v0 : Nat) (v1 : Int32) (v2 : Int32) (v3 : Int32) (v4 : Int32) (v5 : Int32) (t0 : Int32) (t1 : Nat) (S : HS) (Q : Int32 → HS → Prop) : Prop := (ok S t1 5 ∧ (wX5_fails t1 t0 S (fun r2 S2 => ((r2 = 0 → (ok S2 v0 5 ∧ (∀ o1, o1 = gR S2 162 v0 → (ok S2 v0 5 ∧ (∃ q1, o1 = some q1 ∧ (ok S2 q1 6 ∧ vp_in (gI S2 161 v0) (gN S2 q1) ∧ (∀ S3, S3 = sA S2 q1 (gI S2 161 v0).toNatClampNeg v1 → (ok S3 v0 5 ∧ (∀ o2, o2 = gR S3 163 v0 → (ok S3 v0 5 ∧ (∃ q2, o2 = some q2 ∧ (ok S3 q2 6 ∧ vp_in (gI S3 161 v0) (gN S3 q2) ∧ (∀ S4, S4 = sA S3 q2 (gI S3 161 v0).toNatClampNeg v2 → (ok S4 v0 5 ∧ (∀ o3, o3 = gR S4 164 v0 → (ok S4 v0 5 ∧ (∃ q3, o3 = some q3 ∧ (ok S4 q3 6 ∧ vp_in (gI S4 161 v0) (gN S4 q3) ∧ (∀ S5, S5 = sA S4 q3 (gI S4 161 v0).toNatClampNeg v3 → (ok S5 v0 5 ∧ (∀ o4, o4 = gR S5 165 v0 → (ok S5 v0 5 ∧ (∃ q4, o4 = some q4 ∧ (ok S5 q4 6 ∧ vp_in (gI S5 161 v0) (gN S5 q4) ∧ (∀ S6, S6 = sA S5 q4 (gI S5 161 v0).toNatClampNeg v4 → (ok S6 v0 5 ∧ (∀ o5, o5 = gR S6 166 v0 → (ok S6 v0 5 ∧ (∃ q5, o5 = some q5 ∧ (ok S6 q5 6 ∧ vp_in (gI S6 161 v0) (gN S6 q5) ∧ (∀ S7, S7 = sA S6 q5 (gI S6 161 v0).toNatClampNeg v5 → (ok S7 v0 5 ∧ (ok S7 v0 5 ∧ (∀ S8, S8 = sI S7 161 v0 ((gI S7 161 v0) + (1 : Int32)) → (ok S8 v0 5 ∧ Q ((gI S8 161 v0) - (1 : Int32)) S8))))))))))))))))))))))))))))))))))) ∧ (¬ r2 = 0 → Q (0 : Int32) S2)))))
def wX5_begin_J64 (v0 : Nat) (v1 : Int32) (v2 : Int32) (v3 : Int32) (v4 : Int32) (v5 : Int32) (t0 : Int32) (S : HS) (Q : Int32 → HS → Prop) : Prop := ((¬ t0 = 0 → (ok S v0 5 ∧ ((¬ (gI S 161 v0) = (5 : Int32) → wX5_begin_J89 v0 v1 v2 v3 v4 v5 (0 : Int32) v0 S Q) ∧ ((gI S 161 v0) = (5 : Int32) → wX5_begin_J89 v0 v1 v2 v3 v4 v5 (2 : Int32) v0 S Q)))) ∧ (t0 = 0 → wX5_begin_J89 v0 v1 v2 v3 v4 v5 (1 : Int32) v0 S Q))
def wX5_begin_J63 (v0 : Nat) (v1 : Int32) (v2 : Int32) (v3 : Int32) (v4 : Int32) (v5 : Int32) (S : HS) (Q : Int32 → HS → Prop) : Prop := wX5_begin_J64 v0 v1 v2 v3 v4 v5 (0 : Int32) S Q
def wX5_begin (a0 : Nat) (x1 : Int32) (x2 : Int32) (x3 : Int32) (x4 : Int32) (x5 : Int32) (S : HS) (Q : Int32 → HS → Prop) : Prop := (wX5_isIn x1 (4 : Int32) (32 : Int32) S (fun r1 S1 => ((r1 = 0 → wX5_begin_J63 a0 x1 x2 x3 x4 x5 S1 Q) ∧ (¬ r1 = 0 → (wX5_isIn x2 (2 : Int32) (12 : Int32) S1 (fun r3 S9 => ((r3 = 0 → wX5_begin_J63 a0 x1 x2 x3 x4 x5 S9 Q) ∧ (¬ r3 = 0 → (wX5_isIn x3 (0 : Int32) (3 : Int32) S9 (fun r4 S10 => ((r4 = 0 → wX5_begin_J63 a0 x1 x2 x3 x4 x5 S10 Q) ∧ (¬ r4 = 0 → ((x2 ≤ ((2 : Int32) * x3) → wX5_begin_J63 a0 x1 x2 x3 x4 x5 S10 Q) ∧ (¬ x2 ≤ ((2 : Int32) * x3) → (wX5_isIn x4 (1 : Int32) (40 : Int32) S10 (fun r5 S11 => ((r5 = 0 → wX5_begin_J63 a0 x1 x2 x3 x4 x5 S11 Q) ∧ (¬ r5 = 0 → (wX5_isIn x5 (0 : Int32) (10000 : Int32) S11 (fun r6 S12 => ((r6 = 0 → wX5_begin_J63 a0 x1 x2 x3 x4 x5 S12 Q) ∧ (¬ r6 = 0 → wX5_begin_J64 a0 x1 x2 x3 x4 x5 (1 : Int32) S12 Q))))))))))))))))))))))
def wX5_fill_L83 (c0 : Nat) (c1 : Int32) (c2 : Int32) (c4 : Int32) (c5 : Int32) : Nat → Int32 → Int32 → HS → (Int32 → Int32 → HS → Prop) → Prop
  | 0, _, _, _, _ => False
  | n + 1, m8, m9, S, K => ((c4 ≤ m9 → K m8 m9 S) ∧ (¬ c4 ≤ m9 → (ok S c0 5 ∧ (∀ o1, o1 = gR S 167 c0 → (wX5_dot c1 c2 m9 S (fun r3 S3 => (∃ q1, o1 = some q1 ∧ (ok S3 q1 6 ∧ vp_in r3 (gN S3 q1) ∧ ((¬ (gA S3 q1 r3.toNatClampNeg) = c5 → (ok S3 c0 5 ∧ (∀ o2, o2 = gR S3 167 c0 → (wX5_dot c1 c2 m9 S3 (fun r4 S4 => (∃ q2, o2 = some q2 ∧ (ok S4 q2 6 ∧ vp_in r4 (gN S4 q2) ∧ (∀ S5, S5 = sA S4 q2 r4.toNatClampNeg c5 → wX5_fill_L83 c0 c1 c2 c4 c5 n (m8 + (1 : Int32)) (m9 + (1 : Int32)) S5 K)))))))) ∧ ((gA S3 q1 r3.toNatClampNeg) = c5 → (ok S3 c0 5 ∧ (∀ o3, o3 = gR S3 167 c0 → (wX5_dot c1 c2 m9 S3 (fun r5 S6 => (∃ q3, o3 = some q3 ∧ (ok S6 q3 6 ∧ vp_in r5 (gN S6 q3) ∧ (∀ S7, S7 = sA S6 q3 r5.toNatClampNeg c5 → wX5_fill_L83 c0 c1 c2 c4 c5 n (m8 + (0 : Int32)) (m9 + (1 : Int32)) S7 K)))))))))))))))))
def wX5_fill_J47 (v0 : Nat) (v1 : Int32) (v2 : Int32) (v3 : Int32) (v4 : Int32) (v5 : Int32) (v6 : Int32) (t0 : Int32) (S : HS) (Q : Int32 → HS → Prop) : Prop := ((¬ v6 = 0 → ((t0 = 0 → (ok S v0 5 ∧ (wX5_fails v0 (2 : Int32) S (fun r2 S2 => ((r2 = 0 → (∃ n1 : Nat, wX5_fill_L83 v0 v1 v2 v4 v5 n1 (0 : Int32) v3 S2 (fun u1 u2 S8 => Q u1 S8))) ∧ (¬ r2 = 0 → Q (0 : Int32) S2)))))) ∧ (¬ t0 = 0 → (ok S v0 5 ∧ (wX5_fails v0 (0 : Int32) S (fun r6 S9 => ((r6 = 0 → (∃ n2 : Nat, wX5_fill_L83 v0 v1 v2 v4 v5 n2 (0 : Int32) v3 S9 (fun u3 u4 S10 => Q u3 S10))) ∧ (¬ r6 = 0 → Q (0 : Int32) S9)))))))) ∧ (v6 = 0 → (ok S v0 5 ∧ (wX5_fails v0 (1 : Int32) S (fun r7 S11 => ((r7 = 0 → (∃ n3 : Nat, wX5_fill_L83 v0 v1 v2 v4 v5 n3 (0 : Int32) v3 S11 (fun u5 u6 S12 => Q u5 S12))) ∧ (¬ r7 = 0 → Q (0 : Int32) S11)))))))
def wX5_fill_J46 (v0 : Nat) (v1 : Int32) (v2 : Int32) (v3 : Int32) (v4 : Int32) (v5 : Int32) (v6 : Int32) (S : HS) (Q : Int32 → HS → Prop) : Prop := wX5_fill_J47 v0 v1 v2 v3 v4 v5 v6 (0 : Int32) S Q
def wX5_fill (a0 : Nat) (x1 : Int32) (x2 : Int32) (x3 : Int32) (x4 : Int32) (x5 : Int32) (S : HS) (Q : Int32 → HS → Prop) : Prop := (ok S a0 5 ∧ (wX5_isDot a0 x1 x2 x3 S (fun r1 S1 => ((r1 = 0 → wX5_fill_J46 a0 x1 x2 x3 x4 x5 r1 S1 Q) ∧ (¬ r1 = 0 → (ok S1 a0 5 ∧ (∀ o4, o4 = gR S1 162 a0 → (∃ q4, o4 = some q4 ∧ (ok S1 q4 6 ∧ vp_in x1 (gN S1 q4) ∧ (wX5_isIn x4 (x3 + (1 : Int32)) (gA S1 q4 x1.toNatClampNeg) S1 (fun r8 S13 => ((r8 = 0 → wX5_fill_J46 a0 x1 x2 x3 x4 x5 r1 S13 Q) ∧ (¬ r8 = 0 → (wX5_isIn x5 (0 : Int32) (15 : Int32) S13 (fun r9 S14 => ((r9 = 0 → wX5_fill_J46 a0 x1 x2 x3 x4 x5 r1 S14 Q) ∧ (¬ r9 = 0 → wX5_fill_J47 a0 x1 x2 x3 x4 x5 r1 (1 : Int32) S14 Q)))))))))))))))))

def wX5_strips (a0 : Nat) (x1 : Int32) (S : HS) (Q : Int32 → HS → Prop) : Prop := (ok S a0 5 ∧ (wX5_isBanner a0 x1 S (fun r1 S1 => ((r1 = 0 → (ok S1 a0 5 ∧ (wX5_fails a0 (1 : Int32) S1 (fun r2 S2 => ((r2 = 0 → (ok S2 a0 5 ∧ (wX5_stripsOf a0 x1 S2 (fun r3 S3 => Q r3 S3)))) ∧ (¬ r2 = 0 → Q (0 : Int32) S2)))))) ∧ (¬ r1 = 0 → (ok S1 a0 5 ∧ (wX5_fails a0 (0 : Int32) S1 (fun r4 S4 => ((r4 = 0 → (ok S4 a0 5 ∧ (wX5_stripsOf a0 x1 S4 (fun r5 S5 => Q r5 S5)))) ∧ (¬ r4 = 0 → Q (0 : Int32) S4))))))))))
def wX5_toLay_J25 (v0 : Nat) (v1 : Int32) (v2 : Int32) (v3 : Int32) (v4 : Int32) (t0 : Int32) (S : HS) (Q : Int32 → HS → Prop) : Prop := ((t0 = 0 → (ok S v0 5 ∧ (wX5_fails v0 (1 : Int32) S (fun r2 S2 => ((r2 = 0 → (ok S2 v0 5 ∧ (wX5_lays v0 v1 v2 v3 v4 S2 (fun r3 S3 => Q r3 S3)))) ∧ (¬ r2 = 0 → Q (0 : Int32) S2)))))) ∧ (¬ t0 = 0 → (ok S v0 5 ∧ (wX5_fails v0 (0 : Int32) S (fun r4 S4 => ((r4 = 0 → (ok S4 v0 5 ∧ (wX5_lays v0 v1 v2 v3 v4 S4 (fun r5 S5 => Q r5 S5)))) ∧ (¬ r4 = 0 → Q (0 : Int32) S4)))))))
def wX5_toLay_J24 (v0 : Nat) (v1 : Int32) (v2 : Int32) (v3 : Int32) (v4 : Int32) (S : HS) (Q : Int32 → HS → Prop) : Prop := wX5_toLay_J25 v0 v1 v2 v3 v4 (0 : Int32) S Q
def wX5_toLay (a0 : Nat) (x1 : Int32) (x2 : Int32) (x3 : Int32) (x4 : Int32) (S : HS) (Q : Int32 → HS → Prop) : Prop := (ok S a0 5 ∧ (wX5_isStrip a0 x1 x2 S (fun r1 S1 => ((r1 = 0 → wX5_toLay_J24 a0 x1 x2 x3 x4 S1 Q) ∧ (¬ r1 = 0 → (ok S1 a0 5 ∧ (wX5_isDot a0 x1 x3 x4 S1 (fun r6 S6 => ((r6 = 0 → wX5_toLay_J24 a0 x1 x2 x3 x4 S6 Q) ∧ (¬ r6 = 0 → wX5_toLay_J25 a0 x1 x2 x3 x4 (1 : Int32) S6 Q))))))))))
def wX5_setGain_J31 (v0 : Nat) (v1 : Int32) (v2 : Int32) (t0 : Int32) (t1 : Nat) (S : HS) (Q : Int32 → HS → Prop) : Prop := (ok S t1 5 ∧ (wX5_fails t1 t0 S (fun r3 S3 => ((r3 = 0 → (ok S3 v0 5 ∧ (∀ o1, o1 = gR S3 172 v0 → (∃ q1, o1 = some q1 ∧ (ok S3 q1 6 ∧ vp_in v1 (gN S3 q1) ∧ (ok S3 v0 5 ∧ (∀ o2, o2 = gR S3 172 v0 → (∃ q2, o2 = some q2 ∧ (ok S3 q2 6 ∧ vp_in v1 (gN S3 q2) ∧ (∀ S4, S4 = sA S3 q2 v1.toNatClampNeg v2 → Q (gA S3 q1 v1.toNatClampNeg) S4)))))))))) ∧ (¬ r3 = 0 → Q (0 : Int32) S3)))))
def wX5_setGain (a0 : Nat) (x1 : Int32) (x2 : Int32) (S : HS) (Q : Int32 → HS → Prop) : Prop := (wX5_isPrinter x1 S (fun r1 S1 => ((¬ r1 = 0 → (wX5_isIn x2 (50 : Int32) (200 : Int32) S1 (fun r2 S2 => ((r2 = 0 → wX5_setGain_J31 a0 x1 x2 (2 : Int32) a0 S2 Q) ∧ (¬ r2 = 0 → wX5_setGain_J31 a0 x1 x2 (0 : Int32) a0 S2 Q))))) ∧ (r1 = 0 → wX5_setGain_J31 a0 x1 x2 (1 : Int32) a0 S1 Q))))
def wX5_match_J13 (v0 : Nat) (v1 : Int32) (t0 : Int32) (t1 : Nat) (S : HS) (Q : Int32 → HS → Prop) : Prop := (ok S t1 5 ∧ (wX5_fails t1 t0 S (fun r2 S2 => ((r2 = 0 → (ok S2 v0 5 ∧ (∀ o1, o1 = gR S2 173 v0 → (ok S2 v0 5 ∧ (∀ o2, o2 = gR S2 172 v0 → (∃ q1, o2 = some q1 ∧ (ok S2 q1 6 ∧ vp_in v1 (gN S2 q1) ∧ (ok S2 v0 5 ∧ (∀ o3, o3 = gR S2 172 v0 → (∃ q2, o3 = some q2 ∧ (ok S2 q2 6 ∧ vp_in v1 (gN S2 q2) ∧ (¬ (gA S2 q2 v1.toNatClampNeg) = 0 ∧ (∃ q3, o1 = some q3 ∧ (ok S2 q3 6 ∧ vp_in v1 (gN S2 q3) ∧ (∀ S3, S3 = sA S2 q3 v1.toNatClampNeg ((((10000 : Int32) + (gA S2 q1 v1.toNatClampNeg)) - (1 : Int32)) / (gA S2 q2 v1.toNatClampNeg)) → (ok S3 v0 5 ∧ (∀ o4, o4 = gR S3 173 v0 → (∃ q4, o4 = some q4 ∧ (ok S3 q4 6 ∧ vp_in v1 (gN S3 q4) ∧ Q (gA S3 q4 v1.toNatClampNeg) S3))))))))))))))))))) ∧ (¬ r2 = 0 → Q (0 : Int32) S2)))))
def wX5_match (a0 : Nat) (x1 : Int32) (S : HS) (Q : Int32 → HS → Prop) : Prop := (wX5_isPrinter x1 S (fun r1 S1 => ((r1 = 0 → wX5_match_J13 a0 x1 (1 : Int32) a0 S1 Q) ∧ (¬ r1 = 0 → wX5_match_J13 a0 x1 (0 : Int32) a0 S1 Q))))
def wX5_block_J20 (v0 : Nat) (v1 : Int32) (v2 : Int32) (t0 : Int32) (t1 : Nat) (S : HS) (Q : Int32 → HS → Prop) : Prop := (ok S t1 5 ∧ (wX5_fails t1 t0 S (fun r2 S2 => ((r2 = 0 → (ok S2 v0 5 ∧ (∀ o1, o1 = gR S2 174 v0 → (∃ q1, o1 = some q1 ∧ (ok S2 q1 7 ∧ vp_in (((8 : Int32) * v1) + v2) (gN S2 q1) ∧ (∀ S3, S3 = sA S2 q1 (((8 : Int32) * v1) + v2).toNatClampNeg (1 : Int32) → (ok S3 v0 5 ∧ (wX5_blocked v0 v1 S3 (fun r3 S4 => Q r3 S4))))))))) ∧ (¬ r2 = 0 → Q (0 : Int32) S2)))))
def wX5_block_J19 (v0 : Nat) (v1 : Int32) (v2 : Int32) (t0 : Nat) (S : HS) (Q : Int32 → HS → Prop) : Prop := wX5_block_J20 v0 v1 v2 (1 : Int32) t0 S Q
def wX5_block (a0 : Nat) (x1 : Int32) (x2 : Int32) (S : HS) (Q : Int32 → HS → Prop) : Prop := (wX5_isPrinter x1 S (fun r1 S1 => ((r1 = 0 → wX5_block_J19 a0 x1 x2 a0 S1 Q) ∧ (¬ r1 = 0 → (wX5_isRow x2 S1 (fun r4 S5 => ((r4 = 0 → wX5_block_J19 a0 x1 x2 a0 S5 Q) ∧ (¬ r4 = 0 → wX5_block_J20 a0 x1 x2 (0 : Int32) a0 S5 Q))))))))
def wX5_clean_L46 (c0 : Nat) (c1 : Int32) (c3 : Int32) : Nat → Int32 → HS → (Int32 → HS → Prop) → Prop
  | 0, _, _, _ => False
  | n + 1, m4, S, K => (((8 : Int32) ≤ m4 → K m4 S) ∧ (¬ (8 : Int32) ≤ m4 → (ok S c0 5 ∧ (∀ o2, o2 = gR S 174 c0 → (∃ q2, o2 = some q2 ∧ (ok S q2 7 ∧ vp_in (((8 : Int32) * c1) + m4) (gN S q2) ∧ (∀ S4, S4 = sA S q2 (((8 : Int32) * c1) + m4).toNatClampNeg (0 : Int32) → wX5_clean_L46 c0 c1 c3 n (m4 + (1 : Int32)) S4 K)))))))
def wX5_clean (a0 : Nat) (x1 : Int32) (S : HS) (Q : Int32 → HS → Prop) : Prop := (wX5_isPrinter x1 S (fun r1 S1 => ((¬ r1 = 0 → (ok S1 a0 5 ∧ (∀ o1, o1 = gR S1 176 a0 → (∃ q1, o1 = some q1 ∧ (ok S1 q1 6 ∧ vp_in x1 (gN S1 q1) ∧ ((¬ (gA S1 q1 x1.toNatClampNeg) = (-1 : Int32) → (ok S1 a0 5 ∧ (wX5_fails a0 (2 : Int32) S1 (fun r2 S2 => ((r2 = 0 → (ok S2 a0 5 ∧ (wX5_blocked a0 x1 S2 (fun r3 S3 => (∃ n1 : Nat, wX5_clean_L46 a0 x1 r3 n1 (0 : Int32) S3 (fun u1 S5 => (ok S5 a0 5 ∧ (∀ o3, o3 = gR S5 175 a0 → (∃ q3, o3 = some q3 ∧ (ok S5 q3 6 ∧ vp_in x1 (gN S5 q3) ∧ (ok S5 q3 6 ∧ vp_in x1 (gN S5 q3) ∧ (∀ S6, S6 = sA S5 q3 x1.toNatClampNeg ((gA S5 q3 x1.toNatClampNeg) + (20 : Int32)) → Q r3 S6)))))))))))) ∧ (¬ r2 = 0 → Q (0 : Int32) S2)))))) ∧ ((gA S1 q1 x1.toNatClampNeg) = (-1 : Int32) → (ok S1 a0 5 ∧ (wX5_fails a0 (0 : Int32) S1 (fun r4 S7 => ((r4 = 0 → (ok S7 a0 5 ∧ (wX5_blocked a0 x1 S7 (fun r5 S8 => (∃ n2 : Nat, wX5_clean_L46 a0 x1 r5 n2 (0 : Int32) S8 (fun u2 S9 => (ok S9 a0 5 ∧ (∀ o4, o4 = gR S9 175 a0 → (∃ q4, o4 = some q4 ∧ (ok S9 q4 6 ∧ vp_in x1 (gN S9 q4) ∧ (ok S9 q4 6 ∧ vp_in x1 (gN S9 q4) ∧ (∀ S10, S10 = sA S9 q4 x1.toNatClampNeg ((gA S9 q4 x1.toNatClampNeg) + (20 : Int32)) → Q r5 S10)))))))))))) ∧ (¬ r4 = 0 → Q (0 : Int32) S7)))))))))))) ∧ (r1 = 0 → (ok S1 a0 5 ∧ (wX5_fails a0 (1 : Int32) S1 (fun r6 S11 => ((r6 = 0 → (ok S11 a0 5 ∧ (wX5_blocked a0 x1 S11 (fun r7 S12 => (∃ n3 : Nat, wX5_clean_L46 a0 x1 r7 n3 (0 : Int32) S12 (fun u3 S13 => (ok S13 a0 5 ∧ (∀ o5, o5 = gR S13 175 a0 → (∃ q5, o5 = some q5 ∧ (ok S13 q5 6 ∧ vp_in x1 (gN S13 q5) ∧ (ok S13 q5 6 ∧ vp_in x1 (gN S13 q5) ∧ (∀ S14, S14 = sA S13 q5 x1.toNatClampNeg ((gA S13 q5 x1.toNatClampNeg) + (20 : Int32)) → Q r7 S14)))))))))))) ∧ (¬ r6 = 0 → Q (0 : Int32) S11)))))))))
def wX5_patch_L57 (c0 : Nat) (c1 : Int32) (c2 : Int32) (c3 : Int32) : Nat → Int32 → HS → (Int32 → HS → Prop) → Prop
  | 0, _, _, _ => False
  | n + 1, m5, S, K => (((8 : Int32) ≤ m5 → K m5 S) ∧ (¬ (8 : Int32) ≤ m5 → (ok S c0 5 ∧ (wX5_wants c0 c1 m5 c3 S (fun S4 => wX5_patch_L57 c0 c1 c2 c3 n (m5 + (1 : Int32)) S4 K)))))
def wX5_patch_J19 (v0 : Nat) (v1 : Int32) (v2 : Int32) (v3 : Int32) (t0 : Int32) (S : HS) (Q : Int32 → HS → Prop) : Prop := ((¬ t0 = 0 → (wX5_isIn v3 (0 : Int32) (15 : Int32) S (fun r2 S2 => ((r2 = 0 → (ok S2 v0 5 ∧ (wX5_fails v0 (2 : Int32) S2 (fun r3 S3 => ((r3 = 0 → (∃ n1 : Nat, wX5_patch_L57 v0 v1 v2 v3 n1 (0 : Int32) S3 (fun u1 S5 => (ok S5 v0 5 ∧ (wX5_nozzle v0 v1 v2 S5 (fun r4 S6 => Q r4 S6)))))) ∧ (¬ r3 = 0 → Q (0 : Int32) S3)))))) ∧ (¬ r2 = 0 → (ok S2 v0 5 ∧ (wX5_fails v0 (0 : Int32) S2 (fun r5 S7 => ((r5 = 0 → (∃ n2 : Nat, wX5_patch_L57 v0 v1 v2 v3 n2 (0 : Int32) S7 (fun u2 S8 => (ok S8 v0 5 ∧ (wX5_nozzle v0 v1 v2 S8 (fun r6 S9 => Q r6 S9)))))) ∧ (¬ r5 = 0 → Q (0 : Int32) S7)))))))))) ∧ (t0 = 0 → (ok S v0 5 ∧ (wX5_fails v0 (1 : Int32) S (fun r7 S10 => ((r7 = 0 → (∃ n3 : Nat, wX5_patch_L57 v0 v1 v2 v3 n3 (0 : Int32) S10 (fun u3 S11 => (ok S11 v0 5 ∧ (wX5_nozzle v0 v1 v2 S11 (fun r8 S12 => Q r8 S12)))))) ∧ (¬ r7 = 0 → Q (0 : Int32) S10)))))))
def wX5_patch_J18 (v0 : Nat) (v1 : Int32) (v2 : Int32) (v3 : Int32) (S : HS) (Q : Int32 → HS → Prop) : Prop := wX5_patch_J19 v0 v1 v2 v3 (0 : Int32) S Q
def wX5_patch (a0 : Nat) (x1 : Int32) (x2 : Int32) (x3 : Int32) (S : HS) (Q : Int32 → HS → Prop) : Prop := (wX5_isPrinter x1 S (fun r1 S1 => ((r1 = 0 → wX5_patch_J18 a0 x1 x2 x3 S1 Q) ∧ (¬ r1 = 0 → (wX5_isRow x2 S1 (fun r9 S13 => ((r9 = 0 → wX5_patch_J18 a0 x1 x2 x3 S13 Q) ∧ (¬ r9 = 0 → wX5_patch_J19 a0 x1 x2 x3 (1 : Int32) S13 Q))))))))
theorem kC_X5_fails : Cond.code yX5_fails cX5_fails 2 (some .boolean) ∈ T0 := T0_mem (i := 696) (by decide +kernel) (by decide +kernel)
theorem kM_RX5_91 : Cond.methodLink RX5 91 yX5_fails ∈ T0 := T0_mem (i := 693) (by decide +kernel) (by decide +kernel)
theorem hd_X5_fails : yX5_fails.cls ≠ "java/lang/invoke/MethodHandle" ∧ yX5_fails.cls ≠ "java/lang/invoke/VarHandle" ∧ (parseMethodDescriptor yX5_fails.desc).map (fun d => d.parameters.length) = some 1 := by decide +kernel
theorem kO_X5_fails : Cond.instanceMethod yX5_fails ∈ T0 := T0_mem (i := 695) (by decide +kernel) (by decide +kernel)
theorem kV_X5_fails : Cond.selects RX5 yX5_fails yX5_fails ∈ T0 := T0_mem (i := 11) (by decide +kernel) (by decide +kernel)
theorem kC_X5_isDot : Cond.code yX5_isDot cX5_isDot 4 (some .boolean) ∈ T0 := T0_mem (i := 704) (by decide +kernel) (by decide +kernel)
theorem kM_RX5_94 : Cond.methodLink RX5 94 yX5_isDot ∈ T0 := T0_mem (i := 701) (by decide +kernel) (by decide +kernel)
theorem hd_X5_isDot : yX5_isDot.cls ≠ "java/lang/invoke/MethodHandle" ∧ yX5_isDot.cls ≠ "java/lang/invoke/VarHandle" ∧ (parseMethodDescriptor yX5_isDot.desc).map (fun d => d.parameters.length) = some 3 := by decide +kernel
theorem kO_X5_isDot : Cond.instanceMethod yX5_isDot ∈ T0 := T0_mem (i := 703) (by decide +kernel) (by decide +kernel)
theorem kV_X5_isDot : Cond.selects RX5 yX5_isDot yX5_isDot ∈ T0 := T0_mem (i := 12) (by decide +kernel) (by decide +kernel)
theorem kC_X5_isStrip : Cond.code yX5_isStrip cX5_isStrip 3 (some .boolean) ∈ T0 := T0_mem (i := 738) (by decide +kernel) (by decide +kernel)
theorem kM_RX5_104 : Cond.methodLink RX5 104 yX5_isStrip ∈ T0 := T0_mem (i := 735) (by decide +kernel) (by decide +kernel)
theorem hd_X5_isStrip : yX5_isStrip.cls ≠ "java/lang/invoke/MethodHandle" ∧ yX5_isStrip.cls ≠ "java/lang/invoke/VarHandle" ∧ (parseMethodDescriptor yX5_isStrip.desc).map (fun d => d.parameters.length) = some 2 := by decide +kernel
theorem kO_X5_isStrip : Cond.instanceMethod yX5_isStrip ∈ T0 := T0_mem (i := 737) (by decide +kernel) (by decide +kernel)
theorem kV_X5_isStrip : Cond.selects RX5 yX5_isStrip yX5_isStrip ∈ T0 := T0_mem (i := 17) (by decide +kernel) (by decide +kernel)
theorem kC_X5_isPrinter : Cond.code yX5_isPrinter cX5_isPrinter 1 (some .boolean) ∈ T0 := T0_mem (i := 753) (by decide +kernel) (by decide +kernel)
theorem kM_RX5_112 : Cond.methodLink RX5 112 yX5_isPrinter ∈ T0 := T0_mem (i := 751) (by decide +kernel) (by decide +kernel)
theorem hd_X5_isPrinter : yX5_isPrinter.cls ≠ "java/lang/invoke/MethodHandle" ∧ yX5_isPrinter.cls ≠ "java/lang/invoke/VarHandle" ∧ (parseMethodDescriptor yX5_isPrinter.desc).map (fun d => d.parameters.length) = some 1 := by decide +kernel
theorem kS_X5_isPrinter : Cond.static yX5_isPrinter ∈ T0 := T0_mem (i := 752) (by decide +kernel) (by decide +kernel)
theorem kC_X5_blocked : Cond.code yX5_blocked cX5_blocked 4 (some .int) ∈ T0 := T0_mem (i := 765) (by decide +kernel) (by decide +kernel)
theorem kM_RX5_115 : Cond.methodLink RX5 115 yX5_blocked ∈ T0 := T0_mem (i := 762) (by decide +kernel) (by decide +kernel)
theorem hd_X5_blocked : yX5_blocked.cls ≠ "java/lang/invoke/MethodHandle" ∧ yX5_blocked.cls ≠ "java/lang/invoke/VarHandle" ∧ (parseMethodDescriptor yX5_blocked.desc).map (fun d => d.parameters.length) = some 1 := by decide +kernel
theorem kO_X5_blocked : Cond.instanceMethod yX5_blocked ∈ T0 := T0_mem (i := 764) (by decide +kernel) (by decide +kernel)
theorem kV_X5_blocked : Cond.selects RX5 yX5_blocked yX5_blocked ∈ T0 := T0_mem (i := 20) (by decide +kernel) (by decide +kernel)
set_option maxHeartbeats 4000000 in
set_option maxRecDepth 100000 in
theorem met_X5_begin (l : Launch) (a0 : Nat) (x1 : Int32) (x2 : Int32) (x3 : Int32) (x4 : Int32) (x5 : Int32) : MI l yX5_begin cX5_begin 7 (some .int) 1 22 0 0 [.ref a0, .int x1, .int x2, .int x3, .int x4, .int x5] (wX5_begin a0 x1 x2 x3 x4 x5) := by
  refine MI.of (by decide) (Nat.le_of_ble_eq_true rfl) ?_
  intro p e s m below meth c D cs lo S Q ls B hr hlk hin
  have J89 : ∀ (v0 : Nat) (v1 : Int32) (v2 : Int32) (v3 : Int32) (v4 : Int32) (v5 : Int32) (t0 : Int32) (t1 : Nat) (S : HS) (H : Heap) (locs : List Loc) (ls : Array Slot), Hx D cs lo s S H locs → lv_has ls 7 [(0, .ref v0), (1, .int v1), (2, .int v2), (3, .int v3), (4, .int v4), (5, .int v5)] → wX5_begin_J89 v0 v1 v2 v3 v4 v5 t0 t1 S Q → W p l e ({ frames := 1, cells := 0, slots := 0, locals := 22 } : Room) s m [.ref a0, .int x1, .int x2, .int x3, .int x4, .int x5].toArray below meth c H locs 0 0 (MQ below (va_Qi Q (fun S' t => hp D cs lo S' t.heap) (fun q => lo ≤ q)) [.ref a0, .int x1, .int x2, .int x3, .int x4, .int x5].toArray s 0 0 (fun q => lo ≤ q)) (F0 m 89 ls [.int t0, .ref t1]) := by
    intro v0 v1 v2 v3 v4 v5 t0 t1 S H locs ls h hl hw
    obtain ⟨hok, hw⟩ := hw
    refine q_callIV B h (met_X5_fails l t1 t0) (CB B 1 kC_X5_fails kI_RX5 kM_RX5_91 hd_X5_fails ⟨Nat.le_of_ble_eq_true rfl, Nat.le_of_ble_eq_true rfl⟩) kO_X5_fails kV_X5_fails (ci := 5) rfl (by decide) hok.1 hok.2 (rest := []) rfl rfl hl.1 (Nat.le_of_ble_eq_true rfl) dX5_begin_89 ⟨Nat.le_of_ble_eq_true rfl, Nat.le_of_ble_eq_true rfl⟩ hw (fun r2 S2 H locs hw9 h9 => ?_)
    replace hw := hw9
    clear hw9
    replace h := h9
    clear h9
    refine lv_if_eq (tgt := 97) B.1.1 B.1.2.1 dX5_begin_92 (by decide) (fun hc => ?_) (fun hc => ?_)
    · replace hw := hw.1 hc
      refine lv_aload_n B.1.1 B.1.2.1 dX5_begin_97 rfl (lv_at hl 0 rfl) ?_
      obtain ⟨hok, hw⟩ := hw
      refine q_getR B h (ci := 5) (j := 2) (code := 162) rfl inT_5 (by decide) kF_RX5_7 rfl rfl rfl (by decide) dX5_begin_98 hok.1 hok.2 ?_
      obtain ⟨o1, hoo1⟩ : ∃ z, z = gR S2 162 v0 := ⟨_, rfl⟩
      rw [← hoo1]
      replace hw := hw o1 hoo1
      refine lv_aload_n B.1.1 B.1.2.1 dX5_begin_101 rfl (lv_at hl 0 rfl) ?_
      obtain ⟨hok, hw⟩ := hw
      refine q_getI B h (ci := 5) (j := 1) (code := 161) rfl inT_5 (by decide) kF_RX5_66 rfl rfl rfl (by decide) dX5_begin_102 hok.1 hok.2 ?_
      refine lv_iload_n B.1.1 B.1.2.1 dX5_begin_105 rfl (lv_at hl 1 rfl) ?_
      obtain ⟨q1, hn, hw⟩ := hw
      subst hn
      replace hl : lv_has ls 7 [(0, .ref v0), (1, .int v1), (2, .int v2), (3, .int v3), (4, .int v4), (5, .int v5)] := hl
      obtain ⟨hok, hin9, hw⟩ := hw
      refine q_iast B h dX5_begin_106 hok.1 hok.2 hin9 (fun H locs h9 => ?_)
      obtain ⟨S3, hS3, hh⟩ : ∃ z, z = sA S2 q1 (gI S2 161 v0).toNatClampNeg v1 ∧ Hx D cs lo s z H _ := ⟨_, rfl, h9⟩
      clear h9
      replace h := hh
      clear hh
      replace hw := hw S3 hS3
      refine lv_aload_n B.1.1 B.1.2.1 dX5_begin_107 rfl (lv_at hl 0 rfl) ?_
      obtain ⟨hok, hw⟩ := hw
      refine q_getR B h (ci := 5) (j := 3) (code := 163) rfl inT_5 (by decide) kF_RX5_13 rfl rfl rfl (by decide) dX5_begin_108 hok.1 hok.2 ?_
      obtain ⟨o2, hoo2⟩ : ∃ z, z = gR S3 163 v0 := ⟨_, rfl⟩
      rw [← hoo2]
      replace hw := hw o2 hoo2
      refine lv_aload_n B.1.1 B.1.2.1 dX5_begin_111 rfl (lv_at hl 0 rfl) ?_
      obtain ⟨hok, hw⟩ := hw
      refine q_getI B h (ci := 5) (j := 1) (code := 161) rfl inT_5 (by decide) kF_RX5_66 rfl rfl rfl (by decide) dX5_begin_112 hok.1 hok.2 ?_
      refine lv_iload_n B.1.1 B.1.2.1 dX5_begin_115 rfl (lv_at hl 2 rfl) ?_
      obtain ⟨q2, hn, hw⟩ := hw
      subst hn
      replace hl : lv_has ls 7 [(0, .ref v0), (1, .int v1), (2, .int v2), (3, .int v3), (4, .int v4), (5, .int v5)] := hl
      obtain ⟨hok, hin9, hw⟩ := hw
      refine q_iast B h dX5_begin_116 hok.1 hok.2 hin9 (fun H locs h9 => ?_)
      obtain ⟨S4, hS4, hh⟩ : ∃ z, z = sA S3 q2 (gI S3 161 v0).toNatClampNeg v2 ∧ Hx D cs lo s z H _ := ⟨_, rfl, h9⟩
      clear h9
      replace h := hh
      clear hh
      replace hw := hw S4 hS4
      refine lv_aload_n B.1.1 B.1.2.1 dX5_begin_117 rfl (lv_at hl 0 rfl) ?_
      obtain ⟨hok, hw⟩ := hw
      refine q_getR B h (ci := 5) (j := 4) (code := 164) rfl inT_5 (by decide) kF_RX5_16 rfl rfl rfl (by decide) dX5_begin_118 hok.1 hok.2 ?_
      obtain ⟨o3, hoo3⟩ : ∃ z, z = gR S4 164 v0 := ⟨_, rfl⟩
      rw [← hoo3]
      replace hw := hw o3 hoo3
      refine lv_aload_n B.1.1 B.1.2.1 dX5_begin_121 rfl (lv_at hl 0 rfl) ?_
      obtain ⟨hok, hw⟩ := hw
      refine q_getI B h (ci := 5) (j := 1) (code := 161) rfl inT_5 (by decide) kF_RX5_66 rfl rfl rfl (by decide) dX5_begin_122 hok.1 hok.2 ?_
      refine lv_iload_n B.1.1 B.1.2.1 dX5_begin_125 rfl (lv_at hl 3 rfl) ?_
      obtain ⟨q3, hn, hw⟩ := hw
      subst hn
      replace hl : lv_has ls 7 [(0, .ref v0), (1, .int v1), (2, .int v2), (3, .int v3), (4, .int v4), (5, .int v5)] := hl
      obtain ⟨hok, hin9, hw⟩ := hw
      refine q_iast B h dX5_begin_126 hok.1 hok.2 hin9 (fun H locs h9 => ?_)
      obtain ⟨S5, hS5, hh⟩ : ∃ z, z = sA S4 q3 (gI S4 161 v0).toNatClampNeg v3 ∧ Hx D cs lo s z H _ := ⟨_, rfl, h9⟩
      clear h9
      replace h := hh
      clear hh
      replace hw := hw S5 hS5
      refine lv_aload_n B.1.1 B.1.2.1 dX5_begin_127 rfl (lv_at hl 0 rfl) ?_
      obtain ⟨hok, hw⟩ := hw
      refine q_getR B h (ci := 5) (j := 5) (code := 165) rfl inT_5 (by decide) kF_RX5_19 rfl rfl rfl (by decide) dX5_begin_128 hok.1 hok.2 ?_
      obtain ⟨o4, hoo4⟩ : ∃ z, z = gR S5 165 v0 := ⟨_, rfl⟩
      rw [← hoo4]
      replace hw := hw o4 hoo4
      refine lv_aload_n B.1.1 B.1.2.1 dX5_begin_131 rfl (lv_at hl 0 rfl) ?_
      obtain ⟨hok, hw⟩ := hw
      refine q_getI B h (ci := 5) (j := 1) (code := 161) rfl inT_5 (by decide) kF_RX5_66 rfl rfl rfl (by decide) dX5_begin_132 hok.1 hok.2 ?_
      refine lv_iload B.1.1 B.1.2.1 dX5_begin_135 (lv_at hl 4 rfl) ?_
      obtain ⟨q4, hn, hw⟩ := hw
      subst hn
      replace hl : lv_has ls 7 [(0, .ref v0), (1, .int v1), (2, .int v2), (3, .int v3), (4, .int v4), (5, .int v5)] := hl
      obtain ⟨hok, hin9, hw⟩ := hw
      refine q_iast B h dX5_begin_137 hok.1 hok.2 hin9 (fun H locs h9 => ?_)
      obtain ⟨S6, hS6, hh⟩ : ∃ z, z = sA S5 q4 (gI S5 161 v0).toNatClampNeg v4 ∧ Hx D cs lo s z H _ := ⟨_, rfl, h9⟩
      clear h9
      replace h := hh
      clear hh
      replace hw := hw S6 hS6
      refine lv_aload_n B.1.1 B.1.2.1 dX5_begin_138 rfl (lv_at hl 0 rfl) ?_
      obtain ⟨hok, hw⟩ := hw
      refine q_getR B h (ci := 5) (j := 6) (code := 166) rfl inT_5 (by decide) kF_RX5_22 rfl rfl rfl (by decide) dX5_begin_139 hok.1 hok.2 ?_
      obtain ⟨o5, hoo5⟩ : ∃ z, z = gR S6 166 v0 := ⟨_, rfl⟩
      rw [← hoo5]
      replace hw := hw o5 hoo5
      refine lv_aload_n B.1.1 B.1.2.1 dX5_begin_142 rfl (lv_at hl 0 rfl) ?_
      obtain ⟨hok, hw⟩ := hw
      refine q_getI B h (ci := 5) (j := 1) (code := 161) rfl inT_5 (by decide) kF_RX5_66 rfl rfl rfl (by decide) dX5_begin_143 hok.1 hok.2 ?_
      refine lv_iload B.1.1 B.1.2.1 dX5_begin_146 (lv_at hl 5 rfl) ?_
      obtain ⟨q5, hn, hw⟩ := hw
      subst hn
      replace hl : lv_has ls 7 [(0, .ref v0), (1, .int v1), (2, .int v2), (3, .int v3), (4, .int v4), (5, .int v5)] := hl
      obtain ⟨hok, hin9, hw⟩ := hw
      refine q_iast B h dX5_begin_148 hok.1 hok.2 hin9 (fun H locs h9 => ?_)
      obtain ⟨S7, hS7, hh⟩ : ∃ z, z = sA S6 q5 (gI S6 161 v0).toNatClampNeg v5 ∧ Hx D cs lo s z H _ := ⟨_, rfl, h9⟩
      clear h9
      replace h := hh
      clear hh
      replace hw := hw S7 hS7
      refine lv_aload_n B.1.1 B.1.2.1 dX5_begin_149 rfl (lv_at hl 0 rfl) ?_
      refine lv_dup B.1.1 B.1.2.1 dX5_begin_150 rfl ?_
      obtain ⟨hok, hw⟩ := hw
      refine q_getI B h (ci := 5) (j := 1) (code := 161) rfl inT_5 (by decide) kF_RX5_66 rfl rfl rfl (by decide) dX5_begin_151 hok.1 hok.2 ?_
      refine lv_iconst (v := (1 : Int32)) B.1.1 B.1.2.1 dX5_begin_154 (by decide) ?_
      refine lv_iadd B.1.1 B.1.2.1 dX5_begin_155 ?_
      obtain ⟨hok, hw⟩ := hw
      refine q_putI B h (ci := 5) (j := 1) (code := 161) (v := ((gI S7 161 v0) + (1 : Int32))) rfl inT_5 tyX5 tyX5_ok nmX5 (by decide) kF_RX5_66 rfl rfl rfl rfl (by decide) (by first | rfl | decide) (by first | rfl | decide) dX5_begin_156 hok.1 hok.2 (fun H locs h9 => ?_)
      obtain ⟨S8, hS8, hh⟩ : ∃ z, z = sI S7 161 v0 ((gI S7 161 v0) + (1 : Int32)) ∧ Hx D cs lo s z H _ := ⟨_, rfl, h9⟩
      clear h9
      replace h := hh
      clear hh
      replace hw := hw S8 hS8
      refine lv_aload_n B.1.1 B.1.2.1 dX5_begin_159 rfl (lv_at hl 0 rfl) ?_
      obtain ⟨hok, hw⟩ := hw
      refine q_getI B h (ci := 5) (j := 1) (code := 161) rfl inT_5 (by decide) kF_RX5_66 rfl rfl rfl (by decide) dX5_begin_160 hok.1 hok.2 ?_
      refine lv_iconst (v := (1 : Int32)) B.1.1 B.1.2.1 dX5_begin_163 (by decide) ?_
      refine lv_isub B.1.1 B.1.2.1 dX5_begin_164 ?_
      exact q_iret B hr hlk h hw dX5_begin_165 (Nat.le_of_ble_eq_true rfl) (Nat.le_of_ble_eq_true rfl)
    · replace hw := hw.2 hc
      refine lv_iconst (v := (0 : Int32)) B.1.1 B.1.2.1 dX5_begin_95 (by decide) ?_
      exact q_iret B hr hlk h hw dX5_begin_96 (Nat.le_of_ble_eq_true rfl) (Nat.le_of_ble_eq_true rfl)
  have J64 : ∀ (v0 : Nat) (v1 : Int32) (v2 : Int32) (v3 : Int32) (v4 : Int32) (v5 : Int32) (t0 : Int32) (S : HS) (H : Heap) (locs : List Loc) (ls : Array Slot), Hx D cs lo s S H locs → lv_has ls 7 [(0, .ref v0), (1, .int v1), (2, .int v2), (3, .int v3), (4, .int v4), (5, .int v5)] → wX5_begin_J64 v0 v1 v2 v3 v4 v5 t0 S Q → W p l e ({ frames := 1, cells := 0, slots := 0, locals := 22 } : Room) s m [.ref a0, .int x1, .int x2, .int x3, .int x4, .int x5].toArray below meth c H locs 0 0 (MQ below (va_Qi Q (fun S' t => hp D cs lo S' t.heap) (fun q => lo ≤ q)) [.ref a0, .int x1, .int x2, .int x3, .int x4, .int x5].toArray s 0 0 (fun q => lo ≤ q)) (F0 m 64 ls [.int t0]) := by
    intro v0 v1 v2 v3 v4 v5 t0 S H locs ls h hl hw
    refine lv_istore (i := 6) (lv' := [(6, .int t0), (0, .ref v0), (1, .int v1), (2, .int v2), (3, .int v3), (4, .int v4), (5, .int v5)]) B.1.1 B.1.2.1 dX5_begin_64 hl (by decide) rfl (fun ls hl9 => ?_)
    replace hl := hl9
    clear hl9
    refine lv_aload_n B.1.1 B.1.2.1 dX5_begin_66 rfl (lv_at hl 1 rfl) ?_
    refine lv_iload B.1.1 B.1.2.1 dX5_begin_67 (lv_at hl 0 rfl) ?_
    refine lv_if_ne (tgt := 76) B.1.1 B.1.2.1 dX5_begin_69 (by decide) (fun hc => ?_) (fun hc => ?_)
    · replace hw := hw.1 hc
      refine lv_aload_n B.1.1 B.1.2.1 dX5_begin_76 rfl (lv_at hl 1 rfl) ?_
      obtain ⟨hok, hw⟩ := hw
      refine q_getI B h (ci := 5) (j := 1) (code := 161) rfl inT_5 (by decide) kF_RX5_66 rfl rfl rfl (by decide) dX5_begin_77 hok.1 hok.2 ?_
      refine lv_iconst (v := (5 : Int32)) B.1.1 B.1.2.1 dX5_begin_80 (by decide) ?_
      refine lv_icmp_ne (tgt := 88) B.1.1 B.1.2.1 dX5_begin_81 (by decide) (fun hc => ?_) (fun hc => ?_)
      · replace hw := hw.1 hc
        refine lv_iconst (v := (0 : Int32)) B.1.1 B.1.2.1 dX5_begin_88 (by decide) ?_
        exact J89 v0 v1 v2 v3 v4 v5 (0 : Int32) v0 _ _ _ ls h (lv_sub hl [1, 2, 3, 4, 5, 6] rfl) hw
      · replace hw := hw.2 hc
        refine lv_iconst (v := (2 : Int32)) B.1.1 B.1.2.1 dX5_begin_84 (by decide) ?_
        refine lv_goto (tgt := 89) B.1.1 B.1.2.1 dX5_begin_85 (by decide) ?_
        exact J89 v0 v1 v2 v3 v4 v5 (2 : Int32) v0 _ _ _ ls h (lv_sub hl [1, 2, 3, 4, 5, 6] rfl) hw
    · replace hw := hw.2 hc
      refine lv_iconst (v := (1 : Int32)) B.1.1 B.1.2.1 dX5_begin_72 (by decide) ?_
      refine lv_goto (tgt := 89) B.1.1 B.1.2.1 dX5_begin_73 (by decide) ?_
      exact J89 v0 v1 v2 v3 v4 v5 (1 : Int32) v0 _ _ _ ls h (lv_sub hl [1, 2, 3, 4, 5, 6] rfl) hw
  have J63 : ∀ (v0 : Nat) (v1 : Int32) (v2 : Int32) (v3 : Int32) (v4 : Int32) (v5 : Int32) (S : HS) (H : Heap) (locs : List Loc) (ls : Array Slot), Hx D cs lo s S H locs → lv_has ls 7 [(0, .ref v0), (1, .int v1), (2, .int v2), (3, .int v3), (4, .int v4), (5, .int v5)] → wX5_begin_J63 v0 v1 v2 v3 v4 v5 S Q → W p l e ({ frames := 1, cells := 0, slots := 0, locals := 22 } : Room) s m [.ref a0, .int x1, .int x2, .int x3, .int x4, .int x5].toArray below meth c H locs 0 0 (MQ below (va_Qi Q (fun S' t => hp D cs lo S' t.heap) (fun q => lo ≤ q)) [.ref a0, .int x1, .int x2, .int x3, .int x4, .int x5].toArray s 0 0 (fun q => lo ≤ q)) (F0 m 63 ls []) := by
    intro v0 v1 v2 v3 v4 v5 S H locs ls h hl hw
    refine lv_iconst (v := (0 : Int32)) B.1.1 B.1.2.1 dX5_begin_63 (by decide) ?_
    exact J64 v0 v1 v2 v3 v4 v5 (0 : Int32) _ _ _ ls h (lv_sub hl [0, 1, 2, 3, 4, 5] rfl) hw
  intro h hl hw
  replace hl : lv_has ls 7 [(0, .ref a0), (1, .int x1), (2, .int x2), (3, .int x3), (4, .int x4), (5, .int x5)] := hl
  refine lv_iload_n B.1.1 B.1.2.1 dX5_begin_0 rfl (lv_at hl 1 rfl) ?_
  refine lv_iconst (v := (4 : Int32)) B.1.1 B.1.2.1 dX5_begin_1 (by decide) ?_
  refine lv_bipush (v := (32 : Int32)) B.1.1 B.1.2.1 dX5_begin_2 (by decide) ?_
  refine q_callIS B h (met_X5_isIn l x1 (4 : Int32) (32 : Int32)) (CB B 3 kC_X5_isIn kI_RX5 kM_RX5_69 hd_X5_isIn ⟨Nat.le_of_ble_eq_true rfl, Nat.le_of_ble_eq_true rfl⟩) kS_X5_isIn (rest := []) rfl rfl hl.1 (Nat.le_of_ble_eq_true rfl) dX5_begin_4 ⟨Nat.le_of_ble_eq_true rfl, Nat.le_of_ble_eq_true rfl⟩ hw (fun r1 S1 H locs hw9 h9 => ?_)
  replace hw := hw9
  clear hw9
  replace h := h9
  clear h9
  refine lv_if_eq (tgt := 63) B.1.1 B.1.2.1 dX5_begin_7 (by decide) (fun hc => ?_) (fun hc => ?_)
  · replace hw := hw.1 hc
    exact J63 a0 x1 x2 x3 x4 x5 _ _ _ ls h (lv_sub hl [0, 1, 2, 3, 4, 5] rfl) hw
  · replace hw := hw.2 hc
    refine lv_iload_n B.1.1 B.1.2.1 dX5_begin_10 rfl (lv_at hl 2 rfl) ?_
    refine lv_iconst (v := (2 : Int32)) B.1.1 B.1.2.1 dX5_begin_11 (by decide) ?_
    refine lv_bipush (v := (12 : Int32)) B.1.1 B.1.2.1 dX5_begin_12 (by decide) ?_
    refine q_callIS B h (met_X5_isIn l x2 (2 : Int32) (12 : Int32)) (CB B 3 kC_X5_isIn kI_RX5 kM_RX5_69 hd_X5_isIn ⟨Nat.le_of_ble_eq_true rfl, Nat.le_of_ble_eq_true rfl⟩) kS_X5_isIn (rest := []) rfl rfl hl.1 (Nat.le_of_ble_eq_true rfl) dX5_begin_14 ⟨Nat.le_of_ble_eq_true rfl, Nat.le_of_ble_eq_true rfl⟩ hw (fun r3 S9 H locs hw9 h9 => ?_)
    replace hw := hw9
    clear hw9
    replace h := h9
    clear h9
    refine lv_if_eq (tgt := 63) B.1.1 B.1.2.1 dX5_begin_17 (by decide) (fun hc => ?_) (fun hc => ?_)
    · replace hw := hw.1 hc
      exact J63 a0 x1 x2 x3 x4 x5 _ _ _ ls h (lv_sub hl [0, 1, 2, 3, 4, 5] rfl) hw
    · replace hw := hw.2 hc
      refine lv_iload_n B.1.1 B.1.2.1 dX5_begin_20 rfl (lv_at hl 3 rfl) ?_
      refine lv_iconst (v := (0 : Int32)) B.1.1 B.1.2.1 dX5_begin_21 (by decide) ?_
      refine lv_iconst (v := (3 : Int32)) B.1.1 B.1.2.1 dX5_begin_22 (by decide) ?_
      refine q_callIS B h (met_X5_isIn l x3 (0 : Int32) (3 : Int32)) (CB B 3 kC_X5_isIn kI_RX5 kM_RX5_69 hd_X5_isIn ⟨Nat.le_of_ble_eq_true rfl, Nat.le_of_ble_eq_true rfl⟩) kS_X5_isIn (rest := []) rfl rfl hl.1 (Nat.le_of_ble_eq_true rfl) dX5_begin_23 ⟨Nat.le_of_ble_eq_true rfl, Nat.le_of_ble_eq_true rfl⟩ hw (fun r4 S10 H locs hw9 h9 => ?_)
      replace hw := hw9
      clear hw9
      replace h := h9
      clear h9
      refine lv_if_eq (tgt := 63) B.1.1 B.1.2.1 dX5_begin_26 (by decide) (fun hc => ?_) (fun hc => ?_)
      · replace hw := hw.1 hc
        exact J63 a0 x1 x2 x3 x4 x5 _ _ _ ls h (lv_sub hl [0, 1, 2, 3, 4, 5] rfl) hw
      · replace hw := hw.2 hc
        refine lv_iconst (v := (2 : Int32)) B.1.1 B.1.2.1 dX5_begin_29 (by decide) ?_
        refine lv_iload_n B.1.1 B.1.2.1 dX5_begin_30 rfl (lv_at hl 3 rfl) ?_
        refine lv_imul B.1.1 B.1.2.1 dX5_begin_31 ?_
        refine lv_iload_n B.1.1 B.1.2.1 dX5_begin_32 rfl (lv_at hl 2 rfl) ?_
        refine lv_icmp_ge (tgt := 63) B.1.1 B.1.2.1 dX5_begin_33 (by decide) (fun hc => ?_) (fun hc => ?_)
        · replace hw := hw.1 hc
          exact J63 a0 x1 x2 x3 x4 x5 _ _ _ ls h (lv_sub hl [0, 1, 2, 3, 4, 5] rfl) hw
        · replace hw := hw.2 hc
          refine lv_iload B.1.1 B.1.2.1 dX5_begin_36 (lv_at hl 4 rfl) ?_
          refine lv_iconst (v := (1 : Int32)) B.1.1 B.1.2.1 dX5_begin_38 (by decide) ?_
          refine lv_bipush (v := (40 : Int32)) B.1.1 B.1.2.1 dX5_begin_39 (by decide) ?_
          refine q_callIS B h (met_X5_isIn l x4 (1 : Int32) (40 : Int32)) (CB B 3 kC_X5_isIn kI_RX5 kM_RX5_69 hd_X5_isIn ⟨Nat.le_of_ble_eq_true rfl, Nat.le_of_ble_eq_true rfl⟩) kS_X5_isIn (rest := []) rfl rfl hl.1 (Nat.le_of_ble_eq_true rfl) dX5_begin_41 ⟨Nat.le_of_ble_eq_true rfl, Nat.le_of_ble_eq_true rfl⟩ hw (fun r5 S11 H locs hw9 h9 => ?_)
          replace hw := hw9
          clear hw9
          replace h := h9
          clear h9
          refine lv_if_eq (tgt := 63) B.1.1 B.1.2.1 dX5_begin_44 (by decide) (fun hc => ?_) (fun hc => ?_)
          · replace hw := hw.1 hc
            exact J63 a0 x1 x2 x3 x4 x5 _ _ _ ls h (lv_sub hl [0, 1, 2, 3, 4, 5] rfl) hw
          · replace hw := hw.2 hc
            refine lv_iload B.1.1 B.1.2.1 dX5_begin_47 (lv_at hl 5 rfl) ?_
            refine lv_iconst (v := (0 : Int32)) B.1.1 B.1.2.1 dX5_begin_49 (by decide) ?_
            refine lv_sipush (v := (10000 : Int32)) B.1.1 B.1.2.1 dX5_begin_50 (by decide) ?_
            refine q_callIS B h (met_X5_isIn l x5 (0 : Int32) (10000 : Int32)) (CB B 3 kC_X5_isIn kI_RX5 kM_RX5_69 hd_X5_isIn ⟨Nat.le_of_ble_eq_true rfl, Nat.le_of_ble_eq_true rfl⟩) kS_X5_isIn (rest := []) rfl rfl hl.1 (Nat.le_of_ble_eq_true rfl) dX5_begin_53 ⟨Nat.le_of_ble_eq_true rfl, Nat.le_of_ble_eq_true rfl⟩ hw (fun r6 S12 H locs hw9 h9 => ?_)
            replace hw := hw9
            clear hw9
            replace h := h9
            clear h9
            refine lv_if_eq (tgt := 63) B.1.1 B.1.2.1 dX5_begin_56 (by decide) (fun hc => ?_) (fun hc => ?_)
            · replace hw := hw.1 hc
              exact J63 a0 x1 x2 x3 x4 x5 _ _ _ ls h (lv_sub hl [0, 1, 2, 3, 4, 5] rfl) hw
            · replace hw := hw.2 hc
              refine lv_iconst (v := (1 : Int32)) B.1.1 B.1.2.1 dX5_begin_59 (by decide) ?_
              refine lv_goto (tgt := 64) B.1.1 B.1.2.1 dX5_begin_60 (by decide) ?_
              exact J64 a0 x1 x2 x3 x4 x5 (1 : Int32) _ _ _ ls h (lv_sub hl [0, 1, 2, 3, 4, 5] rfl) hw
set_option maxHeartbeats 4000000 in
set_option maxRecDepth 100000 in
theorem met_X5_fill (l : Launch) (a0 : Nat) (x1 : Int32) (x2 : Int32) (x3 : Int32) (x4 : Int32) (x5 : Int32) : MI l yX5_fill cX5_fill 10 (some .int) 3 66 0 0 [.ref a0, .int x1, .int x2, .int x3, .int x4, .int x5] (wX5_fill a0 x1 x2 x3 x4 x5) := by
  refine MI.of (by decide) (Nat.le_of_ble_eq_true rfl) ?_
  intro p e s m below meth c D cs lo S Q ls B hr hlk hin
  have L83 : ∀ (c0 : Nat) (c1 : Int32) (c2 : Int32) (c4 : Int32) (c5 : Int32) (K : Int32 → Int32 → HS → Prop) (n : Nat) (m8 : Int32) (m9 : Int32) (S : HS) (H : Heap) (locs : List Loc) (ls : Array Slot), Hx D cs lo s S H locs → lv_has ls 10 [(0, .ref c0), (1, .int c1), (2, .int c2), (4, .int c4), (5, .int c5), (8, .int m8), (9, .int m9)] → wX5_fill_L83 c0 c1 c2 c4 c5 n m8 m9 S K → (∀ (m8 : Int32) (m9 : Int32) (S : HS) (H : Heap) (locs : List Loc) (ls : Array Slot), Hx D cs lo s S H locs → lv_has ls 10 [(0, .ref c0), (1, .int c1), (2, .int c2), (4, .int c4), (5, .int c5), (8, .int m8), (9, .int m9)] → K m8 m9 S → W p l e ({ frames := 3, cells := 0, slots := 0, locals := 66 } : Room) s m [.ref a0, .int x1, .int x2, .int x3, .int x4, .int x5].toArray below meth c H locs 0 0 (MQ below (va_Qi Q (fun S' t => hp D cs lo S' t.heap) (fun q => lo ≤ q)) [.ref a0, .int x1, .int x2, .int x3, .int x4, .int x5].toArray s 0 0 (fun q => lo ≤ q)) (F0 m 137 ls [])) → W p l e ({ frames := 3, cells := 0, slots := 0, locals := 66 } : Room) s m [.ref a0, .int x1, .int x2, .int x3, .int x4, .int x5].toArray below meth c H locs 0 0 (MQ below (va_Qi Q (fun S' t => hp D cs lo S' t.heap) (fun q => lo ≤ q)) [.ref a0, .int x1, .int x2, .int x3, .int x4, .int x5].toArray s 0 0 (fun q => lo ≤ q)) (F0 m 83 ls []) := by
    intro c0 c1 c2 c4 c5 K n
    induction n with
    | zero => intro m8 m9 S H locs ls h hl hw hk; exact False.elim hw
    | succ n ih =>
      intro m8 m9 S H locs ls h hl hw hk
      refine lv_iload B.1.1 B.1.2.1 dX5_fill_83 (lv_at hl 6 rfl) ?_
      refine lv_iload B.1.1 B.1.2.1 dX5_fill_85 (lv_at hl 3 rfl) ?_
      refine lv_icmp_ge (tgt := 137) B.1.1 B.1.2.1 dX5_fill_87 (by decide) (fun hc => ?_) (fun hc => ?_)
      · replace hw := hw.1 hc
        exact hk m8 m9 _ _ _ ls h (lv_sub hl [0, 1, 2, 3, 4, 5, 6] rfl) hw
      · replace hw := hw.2 hc
        refine lv_iload B.1.1 B.1.2.1 dX5_fill_90 (lv_at hl 5 rfl) ?_
        refine lv_aload_n B.1.1 B.1.2.1 dX5_fill_92 rfl (lv_at hl 0 rfl) ?_
        obtain ⟨hok, hw⟩ := hw
        refine q_getR B h (ci := 5) (j := 7) (code := 167) rfl inT_5 (by decide) kF_RX5_25 rfl rfl rfl (by decide) dX5_fill_93 hok.1 hok.2 ?_
        obtain ⟨o1, hoo1⟩ : ∃ z, z = gR S 167 c0 := ⟨_, rfl⟩
        rw [← hoo1]
        replace hw := hw o1 hoo1
        refine lv_iload_n B.1.1 B.1.2.1 dX5_fill_96 rfl (lv_at hl 1 rfl) ?_
        refine lv_iload_n B.1.1 B.1.2.1 dX5_fill_97 rfl (lv_at hl 2 rfl) ?_
        refine lv_iload B.1.1 B.1.2.1 dX5_fill_98 (lv_at hl 6 rfl) ?_
        refine q_callIS B h (met_X5_dot l c1 c2 m9) (CB B 3 kC_X5_dot kI_RX5 kM_RX5_97 hd_X5_dot ⟨Nat.le_of_ble_eq_true rfl, Nat.le_of_ble_eq_true rfl⟩) kS_X5_dot (rest := [va_rf o1, .int m8]) rfl rfl hl.1 (by simp [rf_cat, cat_i, cat_r, cat_n, cat_j, cat_f, cat_d]) dX5_fill_100 ⟨Nat.le_of_ble_eq_true rfl, Nat.le_of_ble_eq_true rfl⟩ hw (fun r3 S3 H locs hw9 h9 => ?_)
        replace hw := hw9
        clear hw9
        replace h := h9
        clear h9
        obtain ⟨q1, hn, hw⟩ := hw
        subst hn
        replace hl : lv_has ls 10 [(0, .ref c0), (1, .int c1), (2, .int c2), (4, .int c4), (5, .int c5), (8, .int m8), (9, .int m9)] := hl
        obtain ⟨hok, hin9, hw⟩ := hw
        refine q_iald B h dX5_fill_103 hok.1 hok.2 hin9 ?_
        refine lv_iload B.1.1 B.1.2.1 dX5_fill_104 (lv_at hl 4 rfl) ?_
        refine lv_icmp_ne (tgt := 113) B.1.1 B.1.2.1 dX5_fill_106 (by decide) (fun hc => ?_) (fun hc => ?_)
        · replace hw := hw.1 hc
          refine lv_iconst (v := (1 : Int32)) B.1.1 B.1.2.1 dX5_fill_113 (by decide) ?_
          refine lv_iadd B.1.1 B.1.2.1 dX5_fill_114 ?_
          refine lv_istore (i := 8) (lv' := [(8, .int (m8 + (1 : Int32))), (0, .ref c0), (1, .int c1), (2, .int c2), (4, .int c4), (5, .int c5), (9, .int m9)]) B.1.1 B.1.2.1 dX5_fill_115 hl (by decide) rfl (fun ls hl9 => ?_)
          replace hl := hl9
          clear hl9
          refine lv_aload_n B.1.1 B.1.2.1 dX5_fill_117 rfl (lv_at hl 1 rfl) ?_
          obtain ⟨hok, hw⟩ := hw
          refine q_getR B h (ci := 5) (j := 7) (code := 167) rfl inT_5 (by decide) kF_RX5_25 rfl rfl rfl (by decide) dX5_fill_118 hok.1 hok.2 ?_
          obtain ⟨o2, hoo2⟩ : ∃ z, z = gR S3 167 c0 := ⟨_, rfl⟩
          rw [← hoo2]
          replace hw := hw o2 hoo2
          refine lv_iload_n B.1.1 B.1.2.1 dX5_fill_121 rfl (lv_at hl 2 rfl) ?_
          refine lv_iload_n B.1.1 B.1.2.1 dX5_fill_122 rfl (lv_at hl 3 rfl) ?_
          refine lv_iload B.1.1 B.1.2.1 dX5_fill_123 (lv_at hl 6 rfl) ?_
          refine q_callIS B h (met_X5_dot l c1 c2 m9) (CB B 3 kC_X5_dot kI_RX5 kM_RX5_97 hd_X5_dot ⟨Nat.le_of_ble_eq_true rfl, Nat.le_of_ble_eq_true rfl⟩) kS_X5_dot (rest := [va_rf o2]) rfl rfl hl.1 (by simp [rf_cat, cat_i, cat_r, cat_n, cat_j, cat_f, cat_d]) dX5_fill_125 ⟨Nat.le_of_ble_eq_true rfl, Nat.le_of_ble_eq_true rfl⟩ hw (fun r4 S4 H locs hw9 h9 => ?_)
          replace hw := hw9
          clear hw9
          replace h := h9
          clear h9
          refine lv_iload B.1.1 B.1.2.1 dX5_fill_128 (lv_at hl 5 rfl) ?_
          obtain ⟨q2, hn, hw⟩ := hw
          subst hn
          replace hl : lv_has ls 10 [(8, .int (m8 + (1 : Int32))), (0, .ref c0), (1, .int c1), (2, .int c2), (4, .int c4), (5, .int c5), (9, .int m9)] := hl
          obtain ⟨hok, hin9, hw⟩ := hw
          refine q_iast B h dX5_fill_130 hok.1 hok.2 hin9 (fun H locs h9 => ?_)
          obtain ⟨S5, hS5, hh⟩ : ∃ z, z = sA S4 q2 r4.toNatClampNeg c5 ∧ Hx D cs lo s z H _ := ⟨_, rfl, h9⟩
          clear h9
          replace h := hh
          clear hh
          replace hw := hw S5 hS5
          refine lv_iinc (i := 9) (v := (m9 + (1 : Int32))) (lv' := [(9, .int (m9 + (1 : Int32))), (8, .int (m8 + (1 : Int32))), (0, .ref c0), (1, .int c1), (2, .int c2), (4, .int c4), (5, .int c5)]) B.1.1 B.1.2.1 dX5_fill_131 hl (k := 6) rfl rfl (by decide) rfl (fun ls hl9 => ?_)
          replace hl := hl9
          clear hl9
          refine lv_goto (tgt := 83) B.1.1 B.1.2.1 dX5_fill_134 (by decide) ?_
          exact ih (m8 + (1 : Int32)) (m9 + (1 : Int32)) _ _ _ ls h (lv_sub hl [2, 3, 4, 5, 6, 1, 0] rfl) hw hk
        · replace hw := hw.2 hc
          refine lv_iconst (v := (0 : Int32)) B.1.1 B.1.2.1 dX5_fill_109 (by decide) ?_
          refine lv_goto (tgt := 114) B.1.1 B.1.2.1 dX5_fill_110 (by decide) ?_
          refine lv_iadd B.1.1 B.1.2.1 dX5_fill_114 ?_
          refine lv_istore (i := 8) (lv' := [(8, .int (m8 + (0 : Int32))), (0, .ref c0), (1, .int c1), (2, .int c2), (4, .int c4), (5, .int c5), (9, .int m9)]) B.1.1 B.1.2.1 dX5_fill_115 hl (by decide) rfl (fun ls hl9 => ?_)
          replace hl := hl9
          clear hl9
          refine lv_aload_n B.1.1 B.1.2.1 dX5_fill_117 rfl (lv_at hl 1 rfl) ?_
          obtain ⟨hok, hw⟩ := hw
          refine q_getR B h (ci := 5) (j := 7) (code := 167) rfl inT_5 (by decide) kF_RX5_25 rfl rfl rfl (by decide) dX5_fill_118 hok.1 hok.2 ?_
          obtain ⟨o3, hoo3⟩ : ∃ z, z = gR S3 167 c0 := ⟨_, rfl⟩
          rw [← hoo3]
          replace hw := hw o3 hoo3
          refine lv_iload_n B.1.1 B.1.2.1 dX5_fill_121 rfl (lv_at hl 2 rfl) ?_
          refine lv_iload_n B.1.1 B.1.2.1 dX5_fill_122 rfl (lv_at hl 3 rfl) ?_
          refine lv_iload B.1.1 B.1.2.1 dX5_fill_123 (lv_at hl 6 rfl) ?_
          refine q_callIS B h (met_X5_dot l c1 c2 m9) (CB B 3 kC_X5_dot kI_RX5 kM_RX5_97 hd_X5_dot ⟨Nat.le_of_ble_eq_true rfl, Nat.le_of_ble_eq_true rfl⟩) kS_X5_dot (rest := [va_rf o3]) rfl rfl hl.1 (by simp [rf_cat, cat_i, cat_r, cat_n, cat_j, cat_f, cat_d]) dX5_fill_125 ⟨Nat.le_of_ble_eq_true rfl, Nat.le_of_ble_eq_true rfl⟩ hw (fun r5 S6 H locs hw9 h9 => ?_)
          replace hw := hw9
          clear hw9
          replace h := h9
          clear h9
          refine lv_iload B.1.1 B.1.2.1 dX5_fill_128 (lv_at hl 5 rfl) ?_
          obtain ⟨q3, hn, hw⟩ := hw
          subst hn
          replace hl : lv_has ls 10 [(8, .int (m8 + (0 : Int32))), (0, .ref c0), (1, .int c1), (2, .int c2), (4, .int c4), (5, .int c5), (9, .int m9)] := hl
          obtain ⟨hok, hin9, hw⟩ := hw
          refine q_iast B h dX5_fill_130 hok.1 hok.2 hin9 (fun H locs h9 => ?_)
          obtain ⟨S7, hS7, hh⟩ : ∃ z, z = sA S6 q3 r5.toNatClampNeg c5 ∧ Hx D cs lo s z H _ := ⟨_, rfl, h9⟩
          clear h9
          replace h := hh
          clear hh
          replace hw := hw S7 hS7
          refine lv_iinc (i := 9) (v := (m9 + (1 : Int32))) (lv' := [(9, .int (m9 + (1 : Int32))), (8, .int (m8 + (0 : Int32))), (0, .ref c0), (1, .int c1), (2, .int c2), (4, .int c4), (5, .int c5)]) B.1.1 B.1.2.1 dX5_fill_131 hl (k := 6) rfl rfl (by decide) rfl (fun ls hl9 => ?_)
          replace hl := hl9
          clear hl9
          refine lv_goto (tgt := 83) B.1.1 B.1.2.1 dX5_fill_134 (by decide) ?_
          exact ih (m8 + (0 : Int32)) (m9 + (1 : Int32)) _ _ _ ls h (lv_sub hl [2, 3, 4, 5, 6, 1, 0] rfl) hw hk
  have J47 : ∀ (v0 : Nat) (v1 : Int32) (v2 : Int32) (v3 : Int32) (v4 : Int32) (v5 : Int32) (v6 : Int32) (t0 : Int32) (S : HS) (H : Heap) (locs : List Loc) (ls : Array Slot), Hx D cs lo s S H locs → lv_has ls 10 [(0, .ref v0), (1, .int v1), (2, .int v2), (3, .int v3), (4, .int v4), (5, .int v5), (6, .int v6)] → wX5_fill_J47 v0 v1 v2 v3 v4 v5 v6 t0 S Q → W p l e ({ frames := 3, cells := 0, slots := 0, locals := 66 } : Room) s m [.ref a0, .int x1, .int x2, .int x3, .int x4, .int x5].toArray below meth c H locs 0 0 (MQ below (va_Qi Q (fun S' t => hp D cs lo S' t.heap) (fun q => lo ≤ q)) [.ref a0, .int x1, .int x2, .int x3, .int x4, .int x5].toArray s 0 0 (fun q => lo ≤ q)) (F0 m 47 ls [.int t0]) := by
    intro v0 v1 v2 v3 v4 v5 v6 t0 S H locs ls h hl hw
    refine lv_istore (i := 7) (lv' := [(7, .int t0), (0, .ref v0), (1, .int v1), (2, .int v2), (3, .int v3), (4, .int v4), (5, .int v5), (6, .int v6)]) B.1.1 B.1.2.1 dX5_fill_47 hl (by decide) rfl (fun ls hl9 => ?_)
    replace hl := hl9
    clear hl9
    refine lv_aload_n B.1.1 B.1.2.1 dX5_fill_49 rfl (lv_at hl 1 rfl) ?_
    refine lv_iload B.1.1 B.1.2.1 dX5_fill_50 (lv_at hl 7 rfl) ?_
    refine lv_if_ne (tgt := 59) B.1.1 B.1.2.1 dX5_fill_52 (by decide) (fun hc => ?_) (fun hc => ?_)
    · replace hw := hw.1 hc
      refine lv_iload B.1.1 B.1.2.1 dX5_fill_59 (lv_at hl 0 rfl) ?_
      refine lv_if_eq (tgt := 68) B.1.1 B.1.2.1 dX5_fill_61 (by decide) (fun hc => ?_) (fun hc => ?_)
      · replace hw := hw.1 hc
        refine lv_iconst (v := (2 : Int32)) B.1.1 B.1.2.1 dX5_fill_68 (by decide) ?_
        obtain ⟨hok, hw⟩ := hw
        refine q_callIV B h (met_X5_fails l v0 (2 : Int32)) (CB B 1 kC_X5_fails kI_RX5 kM_RX5_91 hd_X5_fails ⟨Nat.le_of_ble_eq_true rfl, Nat.le_of_ble_eq_true rfl⟩) kO_X5_fails kV_X5_fails (ci := 5) rfl (by decide) hok.1 hok.2 (rest := []) rfl rfl hl.1 (Nat.le_of_ble_eq_true rfl) dX5_fill_69 ⟨Nat.le_of_ble_eq_true rfl, Nat.le_of_ble_eq_true rfl⟩ hw (fun r2 S2 H locs hw9 h9 => ?_)
        replace hw := hw9
        clear hw9
        replace h := h9
        clear h9
        refine lv_if_eq (tgt := 77) B.1.1 B.1.2.1 dX5_fill_72 (by decide) (fun hc => ?_) (fun hc => ?_)
        · replace hw := hw.1 hc
          refine lv_iconst (v := (0 : Int32)) B.1.1 B.1.2.1 dX5_fill_77 (by decide) ?_
          refine lv_istore (i := 8) (lv' := [(8, .int (0 : Int32)), (7, .int t0), (0, .ref v0), (1, .int v1), (2, .int v2), (3, .int v3), (4, .int v4), (5, .int v5), (6, .int v6)]) B.1.1 B.1.2.1 dX5_fill_78 hl (by decide) rfl (fun ls hl9 => ?_)
          replace hl := hl9
          clear hl9
          refine lv_iload_n B.1.1 B.1.2.1 dX5_fill_80 rfl (lv_at hl 5 rfl) ?_
          refine lv_istore (i := 9) (lv' := [(9, .int v3), (8, .int (0 : Int32)), (7, .int t0), (0, .ref v0), (1, .int v1), (2, .int v2), (3, .int v3), (4, .int v4), (5, .int v5), (6, .int v6)]) B.1.1 B.1.2.1 dX5_fill_81 hl (by decide) rfl (fun ls hl9 => ?_)
          replace hl := hl9
          clear hl9
          obtain ⟨n1, hw⟩ := hw
          refine L83 v0 v1 v2 v4 v5 _ n1 (0 : Int32) v3 _ _ _ ls h (lv_sub hl [3, 4, 5, 7, 8, 1, 0] rfl) hw (fun u1 u2 S8 H locs ls h9 hl9 hw9 => ?_)
          replace hw := hw9
          clear hw9
          replace h := h9
          clear h9
          replace hl := hl9
          clear hl9
          refine lv_iload B.1.1 B.1.2.1 dX5_fill_137 (lv_at hl 5 rfl) ?_
          exact q_iret B hr hlk h hw dX5_fill_139 (Nat.le_of_ble_eq_true rfl) (Nat.le_of_ble_eq_true rfl)
        · replace hw := hw.2 hc
          refine lv_iconst (v := (0 : Int32)) B.1.1 B.1.2.1 dX5_fill_75 (by decide) ?_
          exact q_iret B hr hlk h hw dX5_fill_76 (Nat.le_of_ble_eq_true rfl) (Nat.le_of_ble_eq_true rfl)
      · replace hw := hw.2 hc
        refine lv_iconst (v := (0 : Int32)) B.1.1 B.1.2.1 dX5_fill_64 (by decide) ?_
        refine lv_goto (tgt := 69) B.1.1 B.1.2.1 dX5_fill_65 (by decide) ?_
        obtain ⟨hok, hw⟩ := hw
        refine q_callIV B h (met_X5_fails l v0 (0 : Int32)) (CB B 1 kC_X5_fails kI_RX5 kM_RX5_91 hd_X5_fails ⟨Nat.le_of_ble_eq_true rfl, Nat.le_of_ble_eq_true rfl⟩) kO_X5_fails kV_X5_fails (ci := 5) rfl (by decide) hok.1 hok.2 (rest := []) rfl rfl hl.1 (Nat.le_of_ble_eq_true rfl) dX5_fill_69 ⟨Nat.le_of_ble_eq_true rfl, Nat.le_of_ble_eq_true rfl⟩ hw (fun r6 S9 H locs hw9 h9 => ?_)
        replace hw := hw9
        clear hw9
        replace h := h9
        clear h9
        refine lv_if_eq (tgt := 77) B.1.1 B.1.2.1 dX5_fill_72 (by decide) (fun hc => ?_) (fun hc => ?_)
        · replace hw := hw.1 hc
          refine lv_iconst (v := (0 : Int32)) B.1.1 B.1.2.1 dX5_fill_77 (by decide) ?_
          refine lv_istore (i := 8) (lv' := [(8, .int (0 : Int32)), (7, .int t0), (0, .ref v0), (1, .int v1), (2, .int v2), (3, .int v3), (4, .int v4), (5, .int v5), (6, .int v6)]) B.1.1 B.1.2.1 dX5_fill_78 hl (by decide) rfl (fun ls hl9 => ?_)
          replace hl := hl9
          clear hl9
          refine lv_iload_n B.1.1 B.1.2.1 dX5_fill_80 rfl (lv_at hl 5 rfl) ?_
          refine lv_istore (i := 9) (lv' := [(9, .int v3), (8, .int (0 : Int32)), (7, .int t0), (0, .ref v0), (1, .int v1), (2, .int v2), (3, .int v3), (4, .int v4), (5, .int v5), (6, .int v6)]) B.1.1 B.1.2.1 dX5_fill_81 hl (by decide) rfl (fun ls hl9 => ?_)
          replace hl := hl9
          clear hl9
          obtain ⟨n2, hw⟩ := hw
          refine L83 v0 v1 v2 v4 v5 _ n2 (0 : Int32) v3 _ _ _ ls h (lv_sub hl [3, 4, 5, 7, 8, 1, 0] rfl) hw (fun u3 u4 S10 H locs ls h9 hl9 hw9 => ?_)
          replace hw := hw9
          clear hw9
          replace h := h9
          clear h9
          replace hl := hl9
          clear hl9
          refine lv_iload B.1.1 B.1.2.1 dX5_fill_137 (lv_at hl 5 rfl) ?_
          exact q_iret B hr hlk h hw dX5_fill_139 (Nat.le_of_ble_eq_true rfl) (Nat.le_of_ble_eq_true rfl)
        · replace hw := hw.2 hc
          refine lv_iconst (v := (0 : Int32)) B.1.1 B.1.2.1 dX5_fill_75 (by decide) ?_
          exact q_iret B hr hlk h hw dX5_fill_76 (Nat.le_of_ble_eq_true rfl) (Nat.le_of_ble_eq_true rfl)
    · replace hw := hw.2 hc
      refine lv_iconst (v := (1 : Int32)) B.1.1 B.1.2.1 dX5_fill_55 (by decide) ?_
      refine lv_goto (tgt := 69) B.1.1 B.1.2.1 dX5_fill_56 (by decide) ?_
      obtain ⟨hok, hw⟩ := hw
      refine q_callIV B h (met_X5_fails l v0 (1 : Int32)) (CB B 1 kC_X5_fails kI_RX5 kM_RX5_91 hd_X5_fails ⟨Nat.le_of_ble_eq_true rfl, Nat.le_of_ble_eq_true rfl⟩) kO_X5_fails kV_X5_fails (ci := 5) rfl (by decide) hok.1 hok.2 (rest := []) rfl rfl hl.1 (Nat.le_of_ble_eq_true rfl) dX5_fill_69 ⟨Nat.le_of_ble_eq_true rfl, Nat.le_of_ble_eq_true rfl⟩ hw (fun r7 S11 H locs hw9 h9 => ?_)
      replace hw := hw9
      clear hw9
      replace h := h9
      clear h9
      refine lv_if_eq (tgt := 77) B.1.1 B.1.2.1 dX5_fill_72 (by decide) (fun hc => ?_) (fun hc => ?_)
      · replace hw := hw.1 hc
        refine lv_iconst (v := (0 : Int32)) B.1.1 B.1.2.1 dX5_fill_77 (by decide) ?_
        refine lv_istore (i := 8) (lv' := [(8, .int (0 : Int32)), (7, .int t0), (0, .ref v0), (1, .int v1), (2, .int v2), (3, .int v3), (4, .int v4), (5, .int v5), (6, .int v6)]) B.1.1 B.1.2.1 dX5_fill_78 hl (by decide) rfl (fun ls hl9 => ?_)
        replace hl := hl9
        clear hl9
        refine lv_iload_n B.1.1 B.1.2.1 dX5_fill_80 rfl (lv_at hl 5 rfl) ?_
        refine lv_istore (i := 9) (lv' := [(9, .int v3), (8, .int (0 : Int32)), (7, .int t0), (0, .ref v0), (1, .int v1), (2, .int v2), (3, .int v3), (4, .int v4), (5, .int v5), (6, .int v6)]) B.1.1 B.1.2.1 dX5_fill_81 hl (by decide) rfl (fun ls hl9 => ?_)
        replace hl := hl9
        clear hl9
        obtain ⟨n3, hw⟩ := hw
        refine L83 v0 v1 v2 v4 v5 _ n3 (0 : Int32) v3 _ _ _ ls h (lv_sub hl [3, 4, 5, 7, 8, 1, 0] rfl) hw (fun u5 u6 S12 H locs ls h9 hl9 hw9 => ?_)
        replace hw := hw9
        clear hw9
        replace h := h9
        clear h9
        replace hl := hl9
        clear hl9
        refine lv_iload B.1.1 B.1.2.1 dX5_fill_137 (lv_at hl 5 rfl) ?_
        exact q_iret B hr hlk h hw dX5_fill_139 (Nat.le_of_ble_eq_true rfl) (Nat.le_of_ble_eq_true rfl)
      · replace hw := hw.2 hc
        refine lv_iconst (v := (0 : Int32)) B.1.1 B.1.2.1 dX5_fill_75 (by decide) ?_
        exact q_iret B hr hlk h hw dX5_fill_76 (Nat.le_of_ble_eq_true rfl) (Nat.le_of_ble_eq_true rfl)
  have J46 : ∀ (v0 : Nat) (v1 : Int32) (v2 : Int32) (v3 : Int32) (v4 : Int32) (v5 : Int32) (v6 : Int32) (S : HS) (H : Heap) (locs : List Loc) (ls : Array Slot), Hx D cs lo s S H locs → lv_has ls 10 [(0, .ref v0), (1, .int v1), (2, .int v2), (3, .int v3), (4, .int v4), (5, .int v5), (6, .int v6)] → wX5_fill_J46 v0 v1 v2 v3 v4 v5 v6 S Q → W p l e ({ frames := 3, cells := 0, slots := 0, locals := 66 } : Room) s m [.ref a0, .int x1, .int x2, .int x3, .int x4, .int x5].toArray below meth c H locs 0 0 (MQ below (va_Qi Q (fun S' t => hp D cs lo S' t.heap) (fun q => lo ≤ q)) [.ref a0, .int x1, .int x2, .int x3, .int x4, .int x5].toArray s 0 0 (fun q => lo ≤ q)) (F0 m 46 ls []) := by
    intro v0 v1 v2 v3 v4 v5 v6 S H locs ls h hl hw
    refine lv_iconst (v := (0 : Int32)) B.1.1 B.1.2.1 dX5_fill_46 (by decide) ?_
    exact J47 v0 v1 v2 v3 v4 v5 v6 (0 : Int32) _ _ _ ls h (lv_sub hl [0, 1, 2, 3, 4, 5, 6] rfl) hw
  intro h hl hw
  replace hl : lv_has ls 10 [(0, .ref a0), (1, .int x1), (2, .int x2), (3, .int x3), (4, .int x4), (5, .int x5)] := hl
  refine lv_aload_n B.1.1 B.1.2.1 dX5_fill_0 rfl (lv_at hl 0 rfl) ?_
  refine lv_iload_n B.1.1 B.1.2.1 dX5_fill_1 rfl (lv_at hl 1 rfl) ?_
  refine lv_iload_n B.1.1 B.1.2.1 dX5_fill_2 rfl (lv_at hl 2 rfl) ?_
  refine lv_iload_n B.1.1 B.1.2.1 dX5_fill_3 rfl (lv_at hl 3 rfl) ?_
  obtain ⟨hok, hw⟩ := hw
  refine q_callIV B h (met_X5_isDot l a0 x1 x2 x3) (CB B 3 kC_X5_isDot kI_RX5 kM_RX5_94 hd_X5_isDot ⟨Nat.le_of_ble_eq_true rfl, Nat.le_of_ble_eq_true rfl⟩) kO_X5_isDot kV_X5_isDot (ci := 5) rfl (by decide) hok.1 hok.2 (rest := []) rfl rfl hl.1 (Nat.le_of_ble_eq_true rfl) dX5_fill_4 ⟨Nat.le_of_ble_eq_true rfl, Nat.le_of_ble_eq_true rfl⟩ hw (fun r1 S1 H locs hw9 h9 => ?_)
  replace hw := hw9
  clear hw9
  replace h := h9
  clear h9
  refine lv_istore (i := 6) (lv' := [(6, .int r1), (0, .ref a0), (1, .int x1), (2, .int x2), (3, .int x3), (4, .int x4), (5, .int x5)]) B.1.1 B.1.2.1 dX5_fill_7 hl (by decide) rfl (fun ls hl9 => ?_)
  replace hl := hl9
  clear hl9
  refine lv_iload B.1.1 B.1.2.1 dX5_fill_9 (lv_at hl 0 rfl) ?_
  refine lv_if_eq (tgt := 46) B.1.1 B.1.2.1 dX5_fill_11 (by decide) (fun hc => ?_) (fun hc => ?_)
  · replace hw := hw.1 hc
    exact J46 a0 x1 x2 x3 x4 x5 r1 _ _ _ ls h (lv_sub hl [1, 2, 3, 4, 5, 6, 0] rfl) hw
  · replace hw := hw.2 hc
    refine lv_iload B.1.1 B.1.2.1 dX5_fill_14 (lv_at hl 5 rfl) ?_
    refine lv_iload_n B.1.1 B.1.2.1 dX5_fill_16 rfl (lv_at hl 4 rfl) ?_
    refine lv_iconst (v := (1 : Int32)) B.1.1 B.1.2.1 dX5_fill_17 (by decide) ?_
    refine lv_iadd B.1.1 B.1.2.1 dX5_fill_18 ?_
    refine lv_aload_n B.1.1 B.1.2.1 dX5_fill_19 rfl (lv_at hl 1 rfl) ?_
    obtain ⟨hok, hw⟩ := hw
    refine q_getR B h (ci := 5) (j := 2) (code := 162) rfl inT_5 (by decide) kF_RX5_7 rfl rfl rfl (by decide) dX5_fill_20 hok.1 hok.2 ?_
    obtain ⟨o4, hoo4⟩ : ∃ z, z = gR S1 162 a0 := ⟨_, rfl⟩
    rw [← hoo4]
    replace hw := hw o4 hoo4
    refine lv_iload_n B.1.1 B.1.2.1 dX5_fill_23 rfl (lv_at hl 2 rfl) ?_
    obtain ⟨q4, hn, hw⟩ := hw
    subst hn
    replace hl : lv_has ls 10 [(6, .int r1), (0, .ref a0), (1, .int x1), (2, .int x2), (3, .int x3), (4, .int x4), (5, .int x5)] := hl
    obtain ⟨hok, hin9, hw⟩ := hw
    refine q_iald B h dX5_fill_24 hok.1 hok.2 hin9 ?_
    refine q_callIS B h (met_X5_isIn l x4 (x3 + (1 : Int32)) (gA S1 q4 x1.toNatClampNeg)) (CB B 3 kC_X5_isIn kI_RX5 kM_RX5_69 hd_X5_isIn ⟨Nat.le_of_ble_eq_true rfl, Nat.le_of_ble_eq_true rfl⟩) kS_X5_isIn (rest := []) rfl rfl hl.1 (Nat.le_of_ble_eq_true rfl) dX5_fill_25 ⟨Nat.le_of_ble_eq_true rfl, Nat.le_of_ble_eq_true rfl⟩ hw (fun r8 S13 H locs hw9 h9 => ?_)
    replace hw := hw9
    clear hw9
    replace h := h9
    clear h9
    refine lv_if_eq (tgt := 46) B.1.1 B.1.2.1 dX5_fill_28 (by decide) (fun hc => ?_) (fun hc => ?_)
    · replace hw := hw.1 hc
      exact J46 a0 x1 x2 x3 x4 x5 r1 _ _ _ ls h (lv_sub hl [1, 2, 3, 4, 5, 6, 0] rfl) hw
    · replace hw := hw.2 hc
      refine lv_iload B.1.1 B.1.2.1 dX5_fill_31 (lv_at hl 6 rfl) ?_
      refine lv_iconst (v := (0 : Int32)) B.1.1 B.1.2.1 dX5_fill_33 (by decide) ?_
      refine lv_bipush (v := (15 : Int32)) B.1.1 B.1.2.1 dX5_fill_34 (by decide) ?_
      refine q_callIS B h (met_X5_isIn l x5 (0 : Int32) (15 : Int32)) (CB B 3 kC_X5_isIn kI_RX5 kM_RX5_69 hd_X5_isIn ⟨Nat.le_of_ble_eq_true rfl, Nat.le_of_ble_eq_true rfl⟩) kS_X5_isIn (rest := []) rfl rfl hl.1 (Nat.le_of_ble_eq_true rfl) dX5_fill_36 ⟨Nat.le_of_ble_eq_true rfl, Nat.le_of_ble_eq_true rfl⟩ hw (fun r9 S14 H locs hw9 h9 => ?_)
      replace hw := hw9
      clear hw9
      replace h := h9
      clear h9
      refine lv_if_eq (tgt := 46) B.1.1 B.1.2.1 dX5_fill_39 (by decide) (fun hc => ?_) (fun hc => ?_)
      · replace hw := hw.1 hc
        exact J46 a0 x1 x2 x3 x4 x5 r1 _ _ _ ls h (lv_sub hl [1, 2, 3, 4, 5, 6, 0] rfl) hw
      · replace hw := hw.2 hc
        refine lv_iconst (v := (1 : Int32)) B.1.1 B.1.2.1 dX5_fill_42 (by decide) ?_
        refine lv_goto (tgt := 47) B.1.1 B.1.2.1 dX5_fill_43 (by decide) ?_
        exact J47 a0 x1 x2 x3 x4 x5 r1 (1 : Int32) _ _ _ ls h (lv_sub hl [1, 2, 3, 4, 5, 6, 0] rfl) hw
set_option maxHeartbeats 4000000 in
set_option maxRecDepth 100000 in
theorem met_X5_strips (l : Launch) (a0 : Nat) (x1 : Int32) : MI l yX5_strips cX5_strips 2 (some .int) 3 67 0 0 [.ref a0, .int x1] (wX5_strips a0 x1) := by
  refine MI.of (by decide) (Nat.le_of_ble_eq_true rfl) ?_
  intro p e s m below meth c D cs lo S Q ls B hr hlk hin
  intro h hl hw
  replace hl : lv_has ls 2 [(0, .ref a0), (1, .int x1)] := hl
  refine lv_aload_n B.1.1 B.1.2.1 dX5_strips_0 rfl (lv_at hl 0 rfl) ?_
  refine lv_aload_n B.1.1 B.1.2.1 dX5_strips_1 rfl (lv_at hl 0 rfl) ?_
  refine lv_iload_n B.1.1 B.1.2.1 dX5_strips_2 rfl (lv_at hl 1 rfl) ?_
  obtain ⟨hok, hw⟩ := hw
  refine q_callIV B h (met_X5_isBanner l a0 x1) (CB B 1 kC_X5_isBanner kI_RX5 kM_RX5_73 hd_X5_isBanner ⟨Nat.le_of_ble_eq_true rfl, Nat.le_of_ble_eq_true rfl⟩) kO_X5_isBanner kV_X5_isBanner (ci := 5) rfl (by decide) hok.1 hok.2 (rest := [.ref a0]) rfl rfl hl.1 (Nat.le_of_ble_eq_true rfl) dX5_strips_3 ⟨Nat.le_of_ble_eq_true rfl, Nat.le_of_ble_eq_true rfl⟩ hw (fun r1 S1 H locs hw9 h9 => ?_)
  replace hw := hw9
  clear hw9
  replace h := h9
  clear h9
  refine lv_if_eq (tgt := 13) B.1.1 B.1.2.1 dX5_strips_6 (by decide) (fun hc => ?_) (fun hc => ?_)
  · replace hw := hw.1 hc
    refine lv_iconst (v := (1 : Int32)) B.1.1 B.1.2.1 dX5_strips_13 (by decide) ?_
    obtain ⟨hok, hw⟩ := hw
    refine q_callIV B h (met_X5_fails l a0 (1 : Int32)) (CB B 1 kC_X5_fails kI_RX5 kM_RX5_91 hd_X5_fails ⟨Nat.le_of_ble_eq_true rfl, Nat.le_of_ble_eq_true rfl⟩) kO_X5_fails kV_X5_fails (ci := 5) rfl (by decide) hok.1 hok.2 (rest := []) rfl rfl hl.1 (Nat.le_of_ble_eq_true rfl) dX5_strips_14 ⟨Nat.le_of_ble_eq_true rfl, Nat.le_of_ble_eq_true rfl⟩ hw (fun r2 S2 H locs hw9 h9 => ?_)
    replace hw := hw9
    clear hw9
    replace h := h9
    clear h9
    refine lv_if_eq (tgt := 24) B.1.1 B.1.2.1 dX5_strips_17 (by decide) (fun hc => ?_) (fun hc => ?_)
    · replace hw := hw.1 hc
      refine lv_aload_n B.1.1 B.1.2.1 dX5_strips_24 rfl (lv_at hl 0 rfl) ?_
      refine lv_iload_n B.1.1 B.1.2.1 dX5_strips_25 rfl (lv_at hl 1 rfl) ?_
      obtain ⟨hok, hw⟩ := hw
      refine q_callIV B h (met_X5_stripsOf l a0 x1) (CB B 1 kC_X5_stripsOf kI_RX5 kM_RX5_77 hd_X5_stripsOf ⟨Nat.le_of_ble_eq_true rfl, Nat.le_of_ble_eq_true rfl⟩) kO_X5_stripsOf kV_X5_stripsOf (ci := 5) rfl (by decide) hok.1 hok.2 (rest := []) rfl rfl hl.1 (Nat.le_of_ble_eq_true rfl) dX5_strips_26 ⟨Nat.le_of_ble_eq_true rfl, Nat.le_of_ble_eq_true rfl⟩ hw (fun r3 S3 H locs hw9 h9 => ?_)
      replace hw := hw9
      clear hw9
      replace h := h9
      clear h9
      exact q_iret B hr hlk h hw dX5_strips_29 (Nat.le_of_ble_eq_true rfl) (Nat.le_of_ble_eq_true rfl)
    · replace hw := hw.2 hc
      refine lv_iconst (v := (0 : Int32)) B.1.1 B.1.2.1 dX5_strips_20 (by decide) ?_
      refine lv_goto (tgt := 29) B.1.1 B.1.2.1 dX5_strips_21 (by decide) ?_
      exact q_iret B hr hlk h hw dX5_strips_29 (Nat.le_of_ble_eq_true rfl) (Nat.le_of_ble_eq_true rfl)
  · replace hw := hw.2 hc
    refine lv_iconst (v := (0 : Int32)) B.1.1 B.1.2.1 dX5_strips_9 (by decide) ?_
    refine lv_goto (tgt := 14) B.1.1 B.1.2.1 dX5_strips_10 (by decide) ?_
    obtain ⟨hok, hw⟩ := hw
    refine q_callIV B h (met_X5_fails l a0 (0 : Int32)) (CB B 1 kC_X5_fails kI_RX5 kM_RX5_91 hd_X5_fails ⟨Nat.le_of_ble_eq_true rfl, Nat.le_of_ble_eq_true rfl⟩) kO_X5_fails kV_X5_fails (ci := 5) rfl (by decide) hok.1 hok.2 (rest := []) rfl rfl hl.1 (Nat.le_of_ble_eq_true rfl) dX5_strips_14 ⟨Nat.le_of_ble_eq_true rfl, Nat.le_of_ble_eq_true rfl⟩ hw (fun r4 S4 H locs hw9 h9 => ?_)
    replace hw := hw9
    clear hw9
    replace h := h9
    clear h9
    refine lv_if_eq (tgt := 24) B.1.1 B.1.2.1 dX5_strips_17 (by decide) (fun hc => ?_) (fun hc => ?_)
    · replace hw := hw.1 hc
      refine lv_aload_n B.1.1 B.1.2.1 dX5_strips_24 rfl (lv_at hl 0 rfl) ?_
      refine lv_iload_n B.1.1 B.1.2.1 dX5_strips_25 rfl (lv_at hl 1 rfl) ?_
      obtain ⟨hok, hw⟩ := hw
      refine q_callIV B h (met_X5_stripsOf l a0 x1) (CB B 1 kC_X5_stripsOf kI_RX5 kM_RX5_77 hd_X5_stripsOf ⟨Nat.le_of_ble_eq_true rfl, Nat.le_of_ble_eq_true rfl⟩) kO_X5_stripsOf kV_X5_stripsOf (ci := 5) rfl (by decide) hok.1 hok.2 (rest := []) rfl rfl hl.1 (Nat.le_of_ble_eq_true rfl) dX5_strips_26 ⟨Nat.le_of_ble_eq_true rfl, Nat.le_of_ble_eq_true rfl⟩ hw (fun r5 S5 H locs hw9 h9 => ?_)
      replace hw := hw9
      clear hw9
      replace h := h9
      clear h9
      exact q_iret B hr hlk h hw dX5_strips_29 (Nat.le_of_ble_eq_true rfl) (Nat.le_of_ble_eq_true rfl)
    · replace hw := hw.2 hc
      refine lv_iconst (v := (0 : Int32)) B.1.1 B.1.2.1 dX5_strips_20 (by decide) ?_
      refine lv_goto (tgt := 29) B.1.1 B.1.2.1 dX5_strips_21 (by decide) ?_
      exact q_iret B hr hlk h hw dX5_strips_29 (Nat.le_of_ble_eq_true rfl) (Nat.le_of_ble_eq_true rfl)
set_option maxHeartbeats 4000000 in
set_option maxRecDepth 100000 in
theorem met_X5_toLay (l : Launch) (a0 : Nat) (x1 : Int32) (x2 : Int32) (x3 : Int32) (x4 : Int32) : MI l yX5_toLay cX5_toLay 6 (some .int) 5 115 0 0 [.ref a0, .int x1, .int x2, .int x3, .int x4] (wX5_toLay a0 x1 x2 x3 x4) := by
  refine MI.of (by decide) (Nat.le_of_ble_eq_true rfl) ?_
  intro p e s m below meth c D cs lo S Q ls B hr hlk hin
  have J25 : ∀ (v0 : Nat) (v1 : Int32) (v2 : Int32) (v3 : Int32) (v4 : Int32) (t0 : Int32) (S : HS) (H : Heap) (locs : List Loc) (ls : Array Slot), Hx D cs lo s S H locs → lv_has ls 6 [(0, .ref v0), (1, .int v1), (2, .int v2), (3, .int v3), (4, .int v4)] → wX5_toLay_J25 v0 v1 v2 v3 v4 t0 S Q → W p l e ({ frames := 5, cells := 0, slots := 0, locals := 115 } : Room) s m [.ref a0, .int x1, .int x2, .int x3, .int x4].toArray below meth c H locs 0 0 (MQ below (va_Qi Q (fun S' t => hp D cs lo S' t.heap) (fun q => lo ≤ q)) [.ref a0, .int x1, .int x2, .int x3, .int x4].toArray s 0 0 (fun q => lo ≤ q)) (F0 m 25 ls [.int t0]) := by
    intro v0 v1 v2 v3 v4 t0 S H locs ls h hl hw
    refine lv_istore (i := 5) (lv' := [(5, .int t0), (0, .ref v0), (1, .int v1), (2, .int v2), (3, .int v3), (4, .int v4)]) B.1.1 B.1.2.1 dX5_toLay_25 hl (by decide) rfl (fun ls hl9 => ?_)
    replace hl := hl9
    clear hl9
    refine lv_aload_n B.1.1 B.1.2.1 dX5_toLay_27 rfl (lv_at hl 1 rfl) ?_
    refine lv_iload B.1.1 B.1.2.1 dX5_toLay_28 (lv_at hl 0 rfl) ?_
    refine lv_if_eq (tgt := 37) B.1.1 B.1.2.1 dX5_toLay_30 (by decide) (fun hc => ?_) (fun hc => ?_)
    · replace hw := hw.1 hc
      refine lv_iconst (v := (1 : Int32)) B.1.1 B.1.2.1 dX5_toLay_37 (by decide) ?_
      obtain ⟨hok, hw⟩ := hw
      refine q_callIV B h (met_X5_fails l v0 (1 : Int32)) (CB B 1 kC_X5_fails kI_RX5 kM_RX5_91 hd_X5_fails ⟨Nat.le_of_ble_eq_true rfl, Nat.le_of_ble_eq_true rfl⟩) kO_X5_fails kV_X5_fails (ci := 5) rfl (by decide) hok.1 hok.2 (rest := []) rfl rfl hl.1 (Nat.le_of_ble_eq_true rfl) dX5_toLay_38 ⟨Nat.le_of_ble_eq_true rfl, Nat.le_of_ble_eq_true rfl⟩ hw (fun r2 S2 H locs hw9 h9 => ?_)
      replace hw := hw9
      clear hw9
      replace h := h9
      clear h9
      refine lv_if_eq (tgt := 48) B.1.1 B.1.2.1 dX5_toLay_41 (by decide) (fun hc => ?_) (fun hc => ?_)
      · replace hw := hw.1 hc
        refine lv_aload_n B.1.1 B.1.2.1 dX5_toLay_48 rfl (lv_at hl 1 rfl) ?_
        refine lv_iload_n B.1.1 B.1.2.1 dX5_toLay_49 rfl (lv_at hl 2 rfl) ?_
        refine lv_iload_n B.1.1 B.1.2.1 dX5_toLay_50 rfl (lv_at hl 3 rfl) ?_
        refine lv_iload_n B.1.1 B.1.2.1 dX5_toLay_51 rfl (lv_at hl 4 rfl) ?_
        refine lv_iload B.1.1 B.1.2.1 dX5_toLay_52 (lv_at hl 5 rfl) ?_
        obtain ⟨hok, hw⟩ := hw
        refine q_callIV B h (met_X5_lays l v0 v1 v2 v3 v4) (CB B 4 kC_X5_lays kI_RX5 kM_RX5_108 hd_X5_lays ⟨Nat.le_of_ble_eq_true rfl, Nat.le_of_ble_eq_true rfl⟩) kO_X5_lays kV_X5_lays (ci := 5) rfl (by decide) hok.1 hok.2 (rest := []) rfl rfl hl.1 (Nat.le_of_ble_eq_true rfl) dX5_toLay_54 ⟨Nat.le_of_ble_eq_true rfl, Nat.le_of_ble_eq_true rfl⟩ hw (fun r3 S3 H locs hw9 h9 => ?_)
        replace hw := hw9
        clear hw9
        replace h := h9
        clear h9
        exact q_iret B hr hlk h hw dX5_toLay_57 (Nat.le_of_ble_eq_true rfl) (Nat.le_of_ble_eq_true rfl)
      · replace hw := hw.2 hc
        refine lv_iconst (v := (0 : Int32)) B.1.1 B.1.2.1 dX5_toLay_44 (by decide) ?_
        refine lv_goto (tgt := 57) B.1.1 B.1.2.1 dX5_toLay_45 (by decide) ?_
        exact q_iret B hr hlk h hw dX5_toLay_57 (Nat.le_of_ble_eq_true rfl) (Nat.le_of_ble_eq_true rfl)
    · replace hw := hw.2 hc
      refine lv_iconst (v := (0 : Int32)) B.1.1 B.1.2.1 dX5_toLay_33 (by decide) ?_
      refine lv_goto (tgt := 38) B.1.1 B.1.2.1 dX5_toLay_34 (by decide) ?_
      obtain ⟨hok, hw⟩ := hw
      refine q_callIV B h (met_X5_fails l v0 (0 : Int32)) (CB B 1 kC_X5_fails kI_RX5 kM_RX5_91 hd_X5_fails ⟨Nat.le_of_ble_eq_true rfl, Nat.le_of_ble_eq_true rfl⟩) kO_X5_fails kV_X5_fails (ci := 5) rfl (by decide) hok.1 hok.2 (rest := []) rfl rfl hl.1 (Nat.le_of_ble_eq_true rfl) dX5_toLay_38 ⟨Nat.le_of_ble_eq_true rfl, Nat.le_of_ble_eq_true rfl⟩ hw (fun r4 S4 H locs hw9 h9 => ?_)
      replace hw := hw9
      clear hw9
      replace h := h9
      clear h9
      refine lv_if_eq (tgt := 48) B.1.1 B.1.2.1 dX5_toLay_41 (by decide) (fun hc => ?_) (fun hc => ?_)
      · replace hw := hw.1 hc
        refine lv_aload_n B.1.1 B.1.2.1 dX5_toLay_48 rfl (lv_at hl 1 rfl) ?_
        refine lv_iload_n B.1.1 B.1.2.1 dX5_toLay_49 rfl (lv_at hl 2 rfl) ?_
        refine lv_iload_n B.1.1 B.1.2.1 dX5_toLay_50 rfl (lv_at hl 3 rfl) ?_
        refine lv_iload_n B.1.1 B.1.2.1 dX5_toLay_51 rfl (lv_at hl 4 rfl) ?_
        refine lv_iload B.1.1 B.1.2.1 dX5_toLay_52 (lv_at hl 5 rfl) ?_
        obtain ⟨hok, hw⟩ := hw
        refine q_callIV B h (met_X5_lays l v0 v1 v2 v3 v4) (CB B 4 kC_X5_lays kI_RX5 kM_RX5_108 hd_X5_lays ⟨Nat.le_of_ble_eq_true rfl, Nat.le_of_ble_eq_true rfl⟩) kO_X5_lays kV_X5_lays (ci := 5) rfl (by decide) hok.1 hok.2 (rest := []) rfl rfl hl.1 (Nat.le_of_ble_eq_true rfl) dX5_toLay_54 ⟨Nat.le_of_ble_eq_true rfl, Nat.le_of_ble_eq_true rfl⟩ hw (fun r5 S5 H locs hw9 h9 => ?_)
        replace hw := hw9
        clear hw9
        replace h := h9
        clear h9
        exact q_iret B hr hlk h hw dX5_toLay_57 (Nat.le_of_ble_eq_true rfl) (Nat.le_of_ble_eq_true rfl)
      · replace hw := hw.2 hc
        refine lv_iconst (v := (0 : Int32)) B.1.1 B.1.2.1 dX5_toLay_44 (by decide) ?_
        refine lv_goto (tgt := 57) B.1.1 B.1.2.1 dX5_toLay_45 (by decide) ?_
        exact q_iret B hr hlk h hw dX5_toLay_57 (Nat.le_of_ble_eq_true rfl) (Nat.le_of_ble_eq_true rfl)
  have J24 : ∀ (v0 : Nat) (v1 : Int32) (v2 : Int32) (v3 : Int32) (v4 : Int32) (S : HS) (H : Heap) (locs : List Loc) (ls : Array Slot), Hx D cs lo s S H locs → lv_has ls 6 [(0, .ref v0), (1, .int v1), (2, .int v2), (3, .int v3), (4, .int v4)] → wX5_toLay_J24 v0 v1 v2 v3 v4 S Q → W p l e ({ frames := 5, cells := 0, slots := 0, locals := 115 } : Room) s m [.ref a0, .int x1, .int x2, .int x3, .int x4].toArray below meth c H locs 0 0 (MQ below (va_Qi Q (fun S' t => hp D cs lo S' t.heap) (fun q => lo ≤ q)) [.ref a0, .int x1, .int x2, .int x3, .int x4].toArray s 0 0 (fun q => lo ≤ q)) (F0 m 24 ls []) := by
    intro v0 v1 v2 v3 v4 S H locs ls h hl hw
    refine lv_iconst (v := (0 : Int32)) B.1.1 B.1.2.1 dX5_toLay_24 (by decide) ?_
    exact J25 v0 v1 v2 v3 v4 (0 : Int32) _ _ _ ls h (lv_sub hl [0, 1, 2, 3, 4] rfl) hw
  intro h hl hw
  replace hl : lv_has ls 6 [(0, .ref a0), (1, .int x1), (2, .int x2), (3, .int x3), (4, .int x4)] := hl
  refine lv_aload_n B.1.1 B.1.2.1 dX5_toLay_0 rfl (lv_at hl 0 rfl) ?_
  refine lv_iload_n B.1.1 B.1.2.1 dX5_toLay_1 rfl (lv_at hl 1 rfl) ?_
  refine lv_iload_n B.1.1 B.1.2.1 dX5_toLay_2 rfl (lv_at hl 2 rfl) ?_
  obtain ⟨hok, hw⟩ := hw
  refine q_callIV B h (met_X5_isStrip l a0 x1 x2) (CB B 2 kC_X5_isStrip kI_RX5 kM_RX5_104 hd_X5_isStrip ⟨Nat.le_of_ble_eq_true rfl, Nat.le_of_ble_eq_true rfl⟩) kO_X5_isStrip kV_X5_isStrip (ci := 5) rfl (by decide) hok.1 hok.2 (rest := []) rfl rfl hl.1 (Nat.le_of_ble_eq_true rfl) dX5_toLay_3 ⟨Nat.le_of_ble_eq_true rfl, Nat.le_of_ble_eq_true rfl⟩ hw (fun r1 S1 H locs hw9 h9 => ?_)
  replace hw := hw9
  clear hw9
  replace h := h9
  clear h9
  refine lv_if_eq (tgt := 24) B.1.1 B.1.2.1 dX5_toLay_6 (by decide) (fun hc => ?_) (fun hc => ?_)
  · replace hw := hw.1 hc
    exact J24 a0 x1 x2 x3 x4 _ _ _ ls h (lv_sub hl [0, 1, 2, 3, 4] rfl) hw
  · replace hw := hw.2 hc
    refine lv_aload_n B.1.1 B.1.2.1 dX5_toLay_9 rfl (lv_at hl 0 rfl) ?_
    refine lv_iload_n B.1.1 B.1.2.1 dX5_toLay_10 rfl (lv_at hl 1 rfl) ?_
    refine lv_iload_n B.1.1 B.1.2.1 dX5_toLay_11 rfl (lv_at hl 3 rfl) ?_
    refine lv_iload B.1.1 B.1.2.1 dX5_toLay_12 (lv_at hl 4 rfl) ?_
    obtain ⟨hok, hw⟩ := hw
    refine q_callIV B h (met_X5_isDot l a0 x1 x3 x4) (CB B 3 kC_X5_isDot kI_RX5 kM_RX5_94 hd_X5_isDot ⟨Nat.le_of_ble_eq_true rfl, Nat.le_of_ble_eq_true rfl⟩) kO_X5_isDot kV_X5_isDot (ci := 5) rfl (by decide) hok.1 hok.2 (rest := []) rfl rfl hl.1 (Nat.le_of_ble_eq_true rfl) dX5_toLay_14 ⟨Nat.le_of_ble_eq_true rfl, Nat.le_of_ble_eq_true rfl⟩ hw (fun r6 S6 H locs hw9 h9 => ?_)
    replace hw := hw9
    clear hw9
    replace h := h9
    clear h9
    refine lv_if_eq (tgt := 24) B.1.1 B.1.2.1 dX5_toLay_17 (by decide) (fun hc => ?_) (fun hc => ?_)
    · replace hw := hw.1 hc
      exact J24 a0 x1 x2 x3 x4 _ _ _ ls h (lv_sub hl [0, 1, 2, 3, 4] rfl) hw
    · replace hw := hw.2 hc
      refine lv_iconst (v := (1 : Int32)) B.1.1 B.1.2.1 dX5_toLay_20 (by decide) ?_
      refine lv_goto (tgt := 25) B.1.1 B.1.2.1 dX5_toLay_21 (by decide) ?_
      exact J25 a0 x1 x2 x3 x4 (1 : Int32) _ _ _ ls h (lv_sub hl [0, 1, 2, 3, 4] rfl) hw
set_option maxHeartbeats 4000000 in
set_option maxRecDepth 100000 in
theorem met_X5_setGain (l : Launch) (a0 : Nat) (x1 : Int32) (x2 : Int32) : MI l yX5_setGain cX5_setGain 5 (some .int) 2 42 0 0 [.ref a0, .int x1, .int x2] (wX5_setGain a0 x1 x2) := by
  refine MI.of (by decide) (Nat.le_of_ble_eq_true rfl) ?_
  intro p e s m below meth c D cs lo S Q ls B hr hlk hin
  have J31 : ∀ (v0 : Nat) (v1 : Int32) (v2 : Int32) (t0 : Int32) (t1 : Nat) (S : HS) (H : Heap) (locs : List Loc) (ls : Array Slot), Hx D cs lo s S H locs → lv_has ls 5 [(0, .ref v0), (1, .int v1), (2, .int v2)] → wX5_setGain_J31 v0 v1 v2 t0 t1 S Q → W p l e ({ frames := 2, cells := 0, slots := 0, locals := 42 } : Room) s m [.ref a0, .int x1, .int x2].toArray below meth c H locs 0 0 (MQ below (va_Qi Q (fun S' t => hp D cs lo S' t.heap) (fun q => lo ≤ q)) [.ref a0, .int x1, .int x2].toArray s 0 0 (fun q => lo ≤ q)) (F0 m 31 ls [.int t0, .ref t1]) := by
    intro v0 v1 v2 t0 t1 S H locs ls h hl hw
    obtain ⟨hok, hw⟩ := hw
    refine q_callIV B h (met_X5_fails l t1 t0) (CB B 1 kC_X5_fails kI_RX5 kM_RX5_91 hd_X5_fails ⟨Nat.le_of_ble_eq_true rfl, Nat.le_of_ble_eq_true rfl⟩) kO_X5_fails kV_X5_fails (ci := 5) rfl (by decide) hok.1 hok.2 (rest := []) rfl rfl hl.1 (Nat.le_of_ble_eq_true rfl) dX5_setGain_31 ⟨Nat.le_of_ble_eq_true rfl, Nat.le_of_ble_eq_true rfl⟩ hw (fun r3 S3 H locs hw9 h9 => ?_)
    replace hw := hw9
    clear hw9
    replace h := h9
    clear h9
    refine lv_if_eq (tgt := 39) B.1.1 B.1.2.1 dX5_setGain_34 (by decide) (fun hc => ?_) (fun hc => ?_)
    · replace hw := hw.1 hc
      refine lv_aload_n B.1.1 B.1.2.1 dX5_setGain_39 rfl (lv_at hl 0 rfl) ?_
      obtain ⟨hok, hw⟩ := hw
      refine q_getR B h (ci := 5) (j := 12) (code := 172) rfl inT_5 (by decide) kF_RX5_40 rfl rfl rfl (by decide) dX5_setGain_40 hok.1 hok.2 ?_
      obtain ⟨o1, hoo1⟩ : ∃ z, z = gR S3 172 v0 := ⟨_, rfl⟩
      rw [← hoo1]
      replace hw := hw o1 hoo1
      refine lv_iload_n B.1.1 B.1.2.1 dX5_setGain_43 rfl (lv_at hl 1 rfl) ?_
      obtain ⟨q1, hn, hw⟩ := hw
      subst hn
      replace hl : lv_has ls 5 [(0, .ref v0), (1, .int v1), (2, .int v2)] := hl
      obtain ⟨hok, hin9, hw⟩ := hw
      refine q_iald B h dX5_setGain_44 hok.1 hok.2 hin9 ?_
      refine lv_istore (i := 4) (lv' := [(4, .int (gA S3 q1 v1.toNatClampNeg)), (0, .ref v0), (1, .int v1), (2, .int v2)]) B.1.1 B.1.2.1 dX5_setGain_45 hl (by decide) rfl (fun ls hl9 => ?_)
      replace hl := hl9
      clear hl9
      refine lv_aload_n B.1.1 B.1.2.1 dX5_setGain_47 rfl (lv_at hl 1 rfl) ?_
      obtain ⟨hok, hw⟩ := hw
      refine q_getR B h (ci := 5) (j := 12) (code := 172) rfl inT_5 (by decide) kF_RX5_40 rfl rfl rfl (by decide) dX5_setGain_48 hok.1 hok.2 ?_
      obtain ⟨o2, hoo2⟩ : ∃ z, z = gR S3 172 v0 := ⟨_, rfl⟩
      rw [← hoo2]
      replace hw := hw o2 hoo2
      refine lv_iload_n B.1.1 B.1.2.1 dX5_setGain_51 rfl (lv_at hl 2 rfl) ?_
      refine lv_iload_n B.1.1 B.1.2.1 dX5_setGain_52 rfl (lv_at hl 3 rfl) ?_
      obtain ⟨q2, hn, hw⟩ := hw
      subst hn
      replace hl : lv_has ls 5 [(4, .int (gA S3 q1 v1.toNatClampNeg)), (0, .ref v0), (1, .int v1), (2, .int v2)] := hl
      obtain ⟨hok, hin9, hw⟩ := hw
      refine q_iast B h dX5_setGain_53 hok.1 hok.2 hin9 (fun H locs h9 => ?_)
      obtain ⟨S4, hS4, hh⟩ : ∃ z, z = sA S3 q2 v1.toNatClampNeg v2 ∧ Hx D cs lo s z H _ := ⟨_, rfl, h9⟩
      clear h9
      replace h := hh
      clear hh
      replace hw := hw S4 hS4
      refine lv_iload B.1.1 B.1.2.1 dX5_setGain_54 (lv_at hl 0 rfl) ?_
      exact q_iret B hr hlk h hw dX5_setGain_56 (Nat.le_of_ble_eq_true rfl) (Nat.le_of_ble_eq_true rfl)
    · replace hw := hw.2 hc
      refine lv_iconst (v := (0 : Int32)) B.1.1 B.1.2.1 dX5_setGain_37 (by decide) ?_
      exact q_iret B hr hlk h hw dX5_setGain_38 (Nat.le_of_ble_eq_true rfl) (Nat.le_of_ble_eq_true rfl)
  intro h hl hw
  replace hl : lv_has ls 5 [(0, .ref a0), (1, .int x1), (2, .int x2)] := hl
  refine lv_iload_n B.1.1 B.1.2.1 dX5_setGain_0 rfl (lv_at hl 1 rfl) ?_
  refine q_callIS B h (met_X5_isPrinter l x1) (CB B 1 kC_X5_isPrinter kI_RX5 kM_RX5_112 hd_X5_isPrinter ⟨Nat.le_of_ble_eq_true rfl, Nat.le_of_ble_eq_true rfl⟩) kS_X5_isPrinter (rest := []) rfl rfl hl.1 (Nat.le_of_ble_eq_true rfl) dX5_setGain_1 ⟨Nat.le_of_ble_eq_true rfl, Nat.le_of_ble_eq_true rfl⟩ hw (fun r1 S1 H locs hw9 h9 => ?_)
  replace hw := hw9
  clear hw9
  replace h := h9
  clear h9
  refine lv_istore_n (i := 3) (lv' := [(3, .int r1), (0, .ref a0), (1, .int x1), (2, .int x2)]) B.1.1 B.1.2.1 dX5_setGain_4 rfl hl (by decide) rfl (fun ls hl9 => ?_)
  replace hl := hl9
  clear hl9
  refine lv_aload_n B.1.1 B.1.2.1 dX5_setGain_5 rfl (lv_at hl 1 rfl) ?_
  refine lv_iload_n B.1.1 B.1.2.1 dX5_setGain_6 rfl (lv_at hl 0 rfl) ?_
  refine lv_if_ne (tgt := 14) B.1.1 B.1.2.1 dX5_setGain_7 (by decide) (fun hc => ?_) (fun hc => ?_)
  · replace hw := hw.1 hc
    refine lv_iload_n B.1.1 B.1.2.1 dX5_setGain_14 rfl (lv_at hl 3 rfl) ?_
    refine lv_bipush (v := (50 : Int32)) B.1.1 B.1.2.1 dX5_setGain_15 (by decide) ?_
    refine lv_sipush (v := (200 : Int32)) B.1.1 B.1.2.1 dX5_setGain_17 (by decide) ?_
    refine q_callIS B h (met_X5_isIn l x2 (50 : Int32) (200 : Int32)) (CB B 3 kC_X5_isIn kI_RX5 kM_RX5_69 hd_X5_isIn ⟨Nat.le_of_ble_eq_true rfl, Nat.le_of_ble_eq_true rfl⟩) kS_X5_isIn (rest := [.ref a0]) rfl rfl hl.1 (Nat.le_of_ble_eq_true rfl) dX5_setGain_20 ⟨Nat.le_of_ble_eq_true rfl, Nat.le_of_ble_eq_true rfl⟩ hw (fun r2 S2 H locs hw9 h9 => ?_)
    replace hw := hw9
    clear hw9
    replace h := h9
    clear h9
    refine lv_if_eq (tgt := 30) B.1.1 B.1.2.1 dX5_setGain_23 (by decide) (fun hc => ?_) (fun hc => ?_)
    · replace hw := hw.1 hc
      refine lv_iconst (v := (2 : Int32)) B.1.1 B.1.2.1 dX5_setGain_30 (by decide) ?_
      exact J31 a0 x1 x2 (2 : Int32) a0 _ _ _ ls h (lv_sub hl [1, 2, 3] rfl) hw
    · replace hw := hw.2 hc
      refine lv_iconst (v := (0 : Int32)) B.1.1 B.1.2.1 dX5_setGain_26 (by decide) ?_
      refine lv_goto (tgt := 31) B.1.1 B.1.2.1 dX5_setGain_27 (by decide) ?_
      exact J31 a0 x1 x2 (0 : Int32) a0 _ _ _ ls h (lv_sub hl [1, 2, 3] rfl) hw
  · replace hw := hw.2 hc
    refine lv_iconst (v := (1 : Int32)) B.1.1 B.1.2.1 dX5_setGain_10 (by decide) ?_
    refine lv_goto (tgt := 31) B.1.1 B.1.2.1 dX5_setGain_11 (by decide) ?_
    exact J31 a0 x1 x2 (1 : Int32) a0 _ _ _ ls h (lv_sub hl [1, 2, 3] rfl) hw
set_option maxHeartbeats 4000000 in
set_option maxRecDepth 100000 in
theorem met_X5_match (l : Launch) (a0 : Nat) (x1 : Int32) : MI l yX5_match cX5_match 2 (some .int) 2 42 0 0 [.ref a0, .int x1] (wX5_match a0 x1) := by
  refine MI.of (by decide) (Nat.le_of_ble_eq_true rfl) ?_
  intro p e s m below meth c D cs lo S Q ls B hr hlk hin
  have J13 : ∀ (v0 : Nat) (v1 : Int32) (t0 : Int32) (t1 : Nat) (S : HS) (H : Heap) (locs : List Loc) (ls : Array Slot), Hx D cs lo s S H locs → lv_has ls 2 [(0, .ref v0), (1, .int v1)] → wX5_match_J13 v0 v1 t0 t1 S Q → W p l e ({ frames := 2, cells := 0, slots := 0, locals := 42 } : Room) s m [.ref a0, .int x1].toArray below meth c H locs 0 0 (MQ below (va_Qi Q (fun S' t => hp D cs lo S' t.heap) (fun q => lo ≤ q)) [.ref a0, .int x1].toArray s 0 0 (fun q => lo ≤ q)) (F0 m 13 ls [.int t0, .ref t1]) := by
    intro v0 v1 t0 t1 S H locs ls h hl hw
    obtain ⟨hok, hw⟩ := hw
    refine q_callIV B h (met_X5_fails l t1 t0) (CB B 1 kC_X5_fails kI_RX5 kM_RX5_91 hd_X5_fails ⟨Nat.le_of_ble_eq_true rfl, Nat.le_of_ble_eq_true rfl⟩) kO_X5_fails kV_X5_fails (ci := 5) rfl (by decide) hok.1 hok.2 (rest := []) rfl rfl hl.1 (Nat.le_of_ble_eq_true rfl) dX5_match_13 ⟨Nat.le_of_ble_eq_true rfl, Nat.le_of_ble_eq_true rfl⟩ hw (fun r2 S2 H locs hw9 h9 => ?_)
    replace hw := hw9
    clear hw9
    replace h := h9
    clear h9
    refine lv_if_eq (tgt := 21) B.1.1 B.1.2.1 dX5_match_16 (by decide) (fun hc => ?_) (fun hc => ?_)
    · replace hw := hw.1 hc
      refine lv_aload_n B.1.1 B.1.2.1 dX5_match_21 rfl (lv_at hl 0 rfl) ?_
      obtain ⟨hok, hw⟩ := hw
      refine q_getR B h (ci := 5) (j := 13) (code := 173) rfl inT_5 (by decide) kF_RX5_43 rfl rfl rfl (by decide) dX5_match_22 hok.1 hok.2 ?_
      obtain ⟨o1, hoo1⟩ : ∃ z, z = gR S2 173 v0 := ⟨_, rfl⟩
      rw [← hoo1]
      replace hw := hw o1 hoo1
      refine lv_iload_n B.1.1 B.1.2.1 dX5_match_25 rfl (lv_at hl 1 rfl) ?_
      refine lv_sipush (v := (10000 : Int32)) B.1.1 B.1.2.1 dX5_match_26 (by decide) ?_
      refine lv_aload_n B.1.1 B.1.2.1 dX5_match_29 rfl (lv_at hl 0 rfl) ?_
      obtain ⟨hok, hw⟩ := hw
      refine q_getR B h (ci := 5) (j := 12) (code := 172) rfl inT_5 (by decide) kF_RX5_40 rfl rfl rfl (by decide) dX5_match_30 hok.1 hok.2 ?_
      obtain ⟨o2, hoo2⟩ : ∃ z, z = gR S2 172 v0 := ⟨_, rfl⟩
      rw [← hoo2]
      replace hw := hw o2 hoo2
      refine lv_iload_n B.1.1 B.1.2.1 dX5_match_33 rfl (lv_at hl 1 rfl) ?_
      obtain ⟨q1, hn, hw⟩ := hw
      subst hn
      replace hl : lv_has ls 2 [(0, .ref v0), (1, .int v1)] := hl
      obtain ⟨hok, hin9, hw⟩ := hw
      refine q_iald B h dX5_match_34 hok.1 hok.2 hin9 ?_
      refine lv_iadd B.1.1 B.1.2.1 dX5_match_35 ?_
      refine lv_iconst (v := (1 : Int32)) B.1.1 B.1.2.1 dX5_match_36 (by decide) ?_
      refine lv_isub B.1.1 B.1.2.1 dX5_match_37 ?_
      refine lv_aload_n B.1.1 B.1.2.1 dX5_match_38 rfl (lv_at hl 0 rfl) ?_
      obtain ⟨hok, hw⟩ := hw
      refine q_getR B h (ci := 5) (j := 12) (code := 172) rfl inT_5 (by decide) kF_RX5_40 rfl rfl rfl (by decide) dX5_match_39 hok.1 hok.2 ?_
      obtain ⟨o3, hoo3⟩ : ∃ z, z = gR S2 172 v0 := ⟨_, rfl⟩
      rw [← hoo3]
      replace hw := hw o3 hoo3
      refine lv_iload_n B.1.1 B.1.2.1 dX5_match_42 rfl (lv_at hl 1 rfl) ?_
      obtain ⟨q2, hn, hw⟩ := hw
      subst hn
      replace hl : lv_has ls 2 [(0, .ref v0), (1, .int v1)] := hl
      obtain ⟨hok, hin9, hw⟩ := hw
      refine q_iald B h dX5_match_43 hok.1 hok.2 hin9 ?_
      obtain ⟨hne, hw⟩ := hw
      refine lv_idiv B.1.1 B.1.2.1 dX5_match_44 hne ?_
      obtain ⟨q3, hn, hw⟩ := hw
      subst hn
      replace hl : lv_has ls 2 [(0, .ref v0), (1, .int v1)] := hl
      obtain ⟨hok, hin9, hw⟩ := hw
      refine q_iast B h dX5_match_45 hok.1 hok.2 hin9 (fun H locs h9 => ?_)
      obtain ⟨S3, hS3, hh⟩ : ∃ z, z = sA S2 q3 v1.toNatClampNeg ((((10000 : Int32) + (gA S2 q1 v1.toNatClampNeg)) - (1 : Int32)) / (gA S2 q2 v1.toNatClampNeg)) ∧ Hx D cs lo s z H _ := ⟨_, rfl, h9⟩
      clear h9
      replace h := hh
      clear hh
      replace hw := hw S3 hS3
      refine lv_aload_n B.1.1 B.1.2.1 dX5_match_46 rfl (lv_at hl 0 rfl) ?_
      obtain ⟨hok, hw⟩ := hw
      refine q_getR B h (ci := 5) (j := 13) (code := 173) rfl inT_5 (by decide) kF_RX5_43 rfl rfl rfl (by decide) dX5_match_47 hok.1 hok.2 ?_
      obtain ⟨o4, hoo4⟩ : ∃ z, z = gR S3 173 v0 := ⟨_, rfl⟩
      rw [← hoo4]
      replace hw := hw o4 hoo4
      refine lv_iload_n B.1.1 B.1.2.1 dX5_match_50 rfl (lv_at hl 1 rfl) ?_
      obtain ⟨q4, hn, hw⟩ := hw
      subst hn
      replace hl : lv_has ls 2 [(0, .ref v0), (1, .int v1)] := hl
      obtain ⟨hok, hin9, hw⟩ := hw
      refine q_iald B h dX5_match_51 hok.1 hok.2 hin9 ?_
      exact q_iret B hr hlk h hw dX5_match_52 (Nat.le_of_ble_eq_true rfl) (Nat.le_of_ble_eq_true rfl)
    · replace hw := hw.2 hc
      refine lv_iconst (v := (0 : Int32)) B.1.1 B.1.2.1 dX5_match_19 (by decide) ?_
      exact q_iret B hr hlk h hw dX5_match_20 (Nat.le_of_ble_eq_true rfl) (Nat.le_of_ble_eq_true rfl)
  intro h hl hw
  replace hl : lv_has ls 2 [(0, .ref a0), (1, .int x1)] := hl
  refine lv_aload_n B.1.1 B.1.2.1 dX5_match_0 rfl (lv_at hl 0 rfl) ?_
  refine lv_iload_n B.1.1 B.1.2.1 dX5_match_1 rfl (lv_at hl 1 rfl) ?_
  refine q_callIS B h (met_X5_isPrinter l x1) (CB B 1 kC_X5_isPrinter kI_RX5 kM_RX5_112 hd_X5_isPrinter ⟨Nat.le_of_ble_eq_true rfl, Nat.le_of_ble_eq_true rfl⟩) kS_X5_isPrinter (rest := [.ref a0]) rfl rfl hl.1 (Nat.le_of_ble_eq_true rfl) dX5_match_2 ⟨Nat.le_of_ble_eq_true rfl, Nat.le_of_ble_eq_true rfl⟩ hw (fun r1 S1 H locs hw9 h9 => ?_)
  replace hw := hw9
  clear hw9
  replace h := h9
  clear h9
  refine lv_if_eq (tgt := 12) B.1.1 B.1.2.1 dX5_match_5 (by decide) (fun hc => ?_) (fun hc => ?_)
  · replace hw := hw.1 hc
    refine lv_iconst (v := (1 : Int32)) B.1.1 B.1.2.1 dX5_match_12 (by decide) ?_
    exact J13 a0 x1 (1 : Int32) a0 _ _ _ ls h (lv_sub hl [0, 1] rfl) hw
  · replace hw := hw.2 hc
    refine lv_iconst (v := (0 : Int32)) B.1.1 B.1.2.1 dX5_match_8 (by decide) ?_
    refine lv_goto (tgt := 13) B.1.1 B.1.2.1 dX5_match_9 (by decide) ?_
    exact J13 a0 x1 (0 : Int32) a0 _ _ _ ls h (lv_sub hl [0, 1] rfl) hw
set_option maxHeartbeats 4000000 in
set_option maxRecDepth 100000 in
theorem met_X5_block (l : Launch) (a0 : Nat) (x1 : Int32) (x2 : Int32) : MI l yX5_block cX5_block 3 (some .int) 2 42 0 0 [.ref a0, .int x1, .int x2] (wX5_block a0 x1 x2) := by
  refine MI.of (by decide) (Nat.le_of_ble_eq_true rfl) ?_
  intro p e s m below meth c D cs lo S Q ls B hr hlk hin
  have J20 : ∀ (v0 : Nat) (v1 : Int32) (v2 : Int32) (t0 : Int32) (t1 : Nat) (S : HS) (H : Heap) (locs : List Loc) (ls : Array Slot), Hx D cs lo s S H locs → lv_has ls 3 [(0, .ref v0), (1, .int v1), (2, .int v2)] → wX5_block_J20 v0 v1 v2 t0 t1 S Q → W p l e ({ frames := 2, cells := 0, slots := 0, locals := 42 } : Room) s m [.ref a0, .int x1, .int x2].toArray below meth c H locs 0 0 (MQ below (va_Qi Q (fun S' t => hp D cs lo S' t.heap) (fun q => lo ≤ q)) [.ref a0, .int x1, .int x2].toArray s 0 0 (fun q => lo ≤ q)) (F0 m 20 ls [.int t0, .ref t1]) := by
    intro v0 v1 v2 t0 t1 S H locs ls h hl hw
    obtain ⟨hok, hw⟩ := hw
    refine q_callIV B h (met_X5_fails l t1 t0) (CB B 1 kC_X5_fails kI_RX5 kM_RX5_91 hd_X5_fails ⟨Nat.le_of_ble_eq_true rfl, Nat.le_of_ble_eq_true rfl⟩) kO_X5_fails kV_X5_fails (ci := 5) rfl (by decide) hok.1 hok.2 (rest := []) rfl rfl hl.1 (Nat.le_of_ble_eq_true rfl) dX5_block_20 ⟨Nat.le_of_ble_eq_true rfl, Nat.le_of_ble_eq_true rfl⟩ hw (fun r2 S2 H locs hw9 h9 => ?_)
    replace hw := hw9
    clear hw9
    replace h := h9
    clear h9
    refine lv_if_eq (tgt := 28) B.1.1 B.1.2.1 dX5_block_23 (by decide) (fun hc => ?_) (fun hc => ?_)
    · replace hw := hw.1 hc
      refine lv_aload_n B.1.1 B.1.2.1 dX5_block_28 rfl (lv_at hl 0 rfl) ?_
      obtain ⟨hok, hw⟩ := hw
      refine q_getR B h (ci := 5) (j := 14) (code := 174) rfl inT_5 (by decide) kF_RX5_46 rfl rfl rfl (by decide) dX5_block_29 hok.1 hok.2 ?_
      obtain ⟨o1, hoo1⟩ : ∃ z, z = gR S2 174 v0 := ⟨_, rfl⟩
      rw [← hoo1]
      replace hw := hw o1 hoo1
      refine lv_bipush (v := (8 : Int32)) B.1.1 B.1.2.1 dX5_block_32 (by decide) ?_
      refine lv_iload_n B.1.1 B.1.2.1 dX5_block_34 rfl (lv_at hl 1 rfl) ?_
      refine lv_imul B.1.1 B.1.2.1 dX5_block_35 ?_
      refine lv_iload_n B.1.1 B.1.2.1 dX5_block_36 rfl (lv_at hl 2 rfl) ?_
      refine lv_iadd B.1.1 B.1.2.1 dX5_block_37 ?_
      refine lv_iconst (v := (1 : Int32)) B.1.1 B.1.2.1 dX5_block_38 (by decide) ?_
      obtain ⟨q1, hn, hw⟩ := hw
      subst hn
      replace hl : lv_has ls 3 [(0, .ref v0), (1, .int v1), (2, .int v2)] := hl
      obtain ⟨hok, hin9, hw⟩ := hw
      refine q_zast B h (x := (1 : Int32)) (by first | rfl | decide) dX5_block_39 hok.1 hok.2 hin9 (fun H locs h9 => ?_)
      obtain ⟨S3, hS3, hh⟩ : ∃ z, z = sA S2 q1 (((8 : Int32) * v1) + v2).toNatClampNeg (1 : Int32) ∧ Hx D cs lo s z H _ := ⟨_, rfl, h9⟩
      clear h9
      replace h := hh
      clear hh
      replace hw := hw S3 hS3
      refine lv_aload_n B.1.1 B.1.2.1 dX5_block_40 rfl (lv_at hl 0 rfl) ?_
      refine lv_iload_n B.1.1 B.1.2.1 dX5_block_41 rfl (lv_at hl 1 rfl) ?_
      obtain ⟨hok, hw⟩ := hw
      refine q_callIV B h (met_X5_blocked l v0 v1) (CB B 1 kC_X5_blocked kI_RX5 kM_RX5_115 hd_X5_blocked ⟨Nat.le_of_ble_eq_true rfl, Nat.le_of_ble_eq_true rfl⟩) kO_X5_blocked kV_X5_blocked (ci := 5) rfl (by decide) hok.1 hok.2 (rest := []) rfl rfl hl.1 (Nat.le_of_ble_eq_true rfl) dX5_block_42 ⟨Nat.le_of_ble_eq_true rfl, Nat.le_of_ble_eq_true rfl⟩ hw (fun r3 S4 H locs hw9 h9 => ?_)
      replace hw := hw9
      clear hw9
      replace h := h9
      clear h9
      exact q_iret B hr hlk h hw dX5_block_45 (Nat.le_of_ble_eq_true rfl) (Nat.le_of_ble_eq_true rfl)
    · replace hw := hw.2 hc
      refine lv_iconst (v := (0 : Int32)) B.1.1 B.1.2.1 dX5_block_26 (by decide) ?_
      exact q_iret B hr hlk h hw dX5_block_27 (Nat.le_of_ble_eq_true rfl) (Nat.le_of_ble_eq_true rfl)
  have J19 : ∀ (v0 : Nat) (v1 : Int32) (v2 : Int32) (t0 : Nat) (S : HS) (H : Heap) (locs : List Loc) (ls : Array Slot), Hx D cs lo s S H locs → lv_has ls 3 [(0, .ref v0), (1, .int v1), (2, .int v2)] → wX5_block_J19 v0 v1 v2 t0 S Q → W p l e ({ frames := 2, cells := 0, slots := 0, locals := 42 } : Room) s m [.ref a0, .int x1, .int x2].toArray below meth c H locs 0 0 (MQ below (va_Qi Q (fun S' t => hp D cs lo S' t.heap) (fun q => lo ≤ q)) [.ref a0, .int x1, .int x2].toArray s 0 0 (fun q => lo ≤ q)) (F0 m 19 ls [.ref t0]) := by
    intro v0 v1 v2 t0 S H locs ls h hl hw
    refine lv_iconst (v := (1 : Int32)) B.1.1 B.1.2.1 dX5_block_19 (by decide) ?_
    exact J20 v0 v1 v2 (1 : Int32) t0 _ _ _ ls h (lv_sub hl [0, 1, 2] rfl) hw
  intro h hl hw
  replace hl : lv_has ls 3 [(0, .ref a0), (1, .int x1), (2, .int x2)] := hl
  refine lv_aload_n B.1.1 B.1.2.1 dX5_block_0 rfl (lv_at hl 0 rfl) ?_
  refine lv_iload_n B.1.1 B.1.2.1 dX5_block_1 rfl (lv_at hl 1 rfl) ?_
  refine q_callIS B h (met_X5_isPrinter l x1) (CB B 1 kC_X5_isPrinter kI_RX5 kM_RX5_112 hd_X5_isPrinter ⟨Nat.le_of_ble_eq_true rfl, Nat.le_of_ble_eq_true rfl⟩) kS_X5_isPrinter (rest := [.ref a0]) rfl rfl hl.1 (Nat.le_of_ble_eq_true rfl) dX5_block_2 ⟨Nat.le_of_ble_eq_true rfl, Nat.le_of_ble_eq_true rfl⟩ hw (fun r1 S1 H locs hw9 h9 => ?_)
  replace hw := hw9
  clear hw9
  replace h := h9
  clear h9
  refine lv_if_eq (tgt := 19) B.1.1 B.1.2.1 dX5_block_5 (by decide) (fun hc => ?_) (fun hc => ?_)
  · replace hw := hw.1 hc
    exact J19 a0 x1 x2 a0 _ _ _ ls h (lv_sub hl [0, 1, 2] rfl) hw
  · replace hw := hw.2 hc
    refine lv_iload_n B.1.1 B.1.2.1 dX5_block_8 rfl (lv_at hl 2 rfl) ?_
    refine q_callIS B h (met_X5_isRow l x2) (CB B 1 kC_X5_isRow kI_RX5 kM_RX5_81 hd_X5_isRow ⟨Nat.le_of_ble_eq_true rfl, Nat.le_of_ble_eq_true rfl⟩) kS_X5_isRow (rest := [.ref a0]) rfl rfl hl.1 (Nat.le_of_ble_eq_true rfl) dX5_block_9 ⟨Nat.le_of_ble_eq_true rfl, Nat.le_of_ble_eq_true rfl⟩ hw (fun r4 S5 H locs hw9 h9 => ?_)
    replace hw := hw9
    clear hw9
    replace h := h9
    clear h9
    refine lv_if_eq (tgt := 19) B.1.1 B.1.2.1 dX5_block_12 (by decide) (fun hc => ?_) (fun hc => ?_)
    · replace hw := hw.1 hc
      exact J19 a0 x1 x2 a0 _ _ _ ls h (lv_sub hl [0, 1, 2] rfl) hw
    · replace hw := hw.2 hc
      refine lv_iconst (v := (0 : Int32)) B.1.1 B.1.2.1 dX5_block_15 (by decide) ?_
      refine lv_goto (tgt := 20) B.1.1 B.1.2.1 dX5_block_16 (by decide) ?_
      exact J20 a0 x1 x2 (0 : Int32) a0 _ _ _ ls h (lv_sub hl [0, 1, 2] rfl) hw
set_option maxHeartbeats 4000000 in
set_option maxRecDepth 100000 in
theorem met_X5_clean (l : Launch) (a0 : Nat) (x1 : Int32) : MI l yX5_clean cX5_clean 5 (some .int) 2 42 0 0 [.ref a0, .int x1] (wX5_clean a0 x1) := by
  refine MI.of (by decide) (Nat.le_of_ble_eq_true rfl) ?_
  intro p e s m below meth c D cs lo S Q ls B hr hlk hin
  have L46 : ∀ (c0 : Nat) (c1 : Int32) (c3 : Int32) (K : Int32 → HS → Prop) (n : Nat) (m4 : Int32) (S : HS) (H : Heap) (locs : List Loc) (ls : Array Slot), Hx D cs lo s S H locs → lv_has ls 5 [(0, .ref c0), (1, .int c1), (3, .int c3), (4, .int m4)] → wX5_clean_L46 c0 c1 c3 n m4 S K → (∀ (m4 : Int32) (S : HS) (H : Heap) (locs : List Loc) (ls : Array Slot), Hx D cs lo s S H locs → lv_has ls 5 [(0, .ref c0), (1, .int c1), (3, .int c3), (4, .int m4)] → K m4 S → W p l e ({ frames := 2, cells := 0, slots := 0, locals := 42 } : Room) s m [.ref a0, .int x1].toArray below meth c H locs 0 0 (MQ below (va_Qi Q (fun S' t => hp D cs lo S' t.heap) (fun q => lo ≤ q)) [.ref a0, .int x1].toArray s 0 0 (fun q => lo ≤ q)) (F0 m 72 ls [])) → W p l e ({ frames := 2, cells := 0, slots := 0, locals := 42 } : Room) s m [.ref a0, .int x1].toArray below meth c H locs 0 0 (MQ below (va_Qi Q (fun S' t => hp D cs lo S' t.heap) (fun q => lo ≤ q)) [.ref a0, .int x1].toArray s 0 0 (fun q => lo ≤ q)) (F0 m 46 ls []) := by
    intro c0 c1 c3 K n
    induction n with
    | zero => intro m4 S H locs ls h hl hw hk; exact False.elim hw
    | succ n ih =>
      intro m4 S H locs ls h hl hw hk
      refine lv_iload B.1.1 B.1.2.1 dX5_clean_46 (lv_at hl 3 rfl) ?_
      refine lv_bipush (v := (8 : Int32)) B.1.1 B.1.2.1 dX5_clean_48 (by decide) ?_
      refine lv_icmp_ge (tgt := 72) B.1.1 B.1.2.1 dX5_clean_50 (by decide) (fun hc => ?_) (fun hc => ?_)
      · replace hw := hw.1 hc
        exact hk m4 _ _ _ ls h (lv_sub hl [0, 1, 2, 3] rfl) hw
      · replace hw := hw.2 hc
        refine lv_aload_n B.1.1 B.1.2.1 dX5_clean_53 rfl (lv_at hl 0 rfl) ?_
        obtain ⟨hok, hw⟩ := hw
        refine q_getR B h (ci := 5) (j := 14) (code := 174) rfl inT_5 (by decide) kF_RX5_46 rfl rfl rfl (by decide) dX5_clean_54 hok.1 hok.2 ?_
        obtain ⟨o2, hoo2⟩ : ∃ z, z = gR S 174 c0 := ⟨_, rfl⟩
        rw [← hoo2]
        replace hw := hw o2 hoo2
        refine lv_bipush (v := (8 : Int32)) B.1.1 B.1.2.1 dX5_clean_57 (by decide) ?_
        refine lv_iload_n B.1.1 B.1.2.1 dX5_clean_59 rfl (lv_at hl 1 rfl) ?_
        refine lv_imul B.1.1 B.1.2.1 dX5_clean_60 ?_
        refine lv_iload B.1.1 B.1.2.1 dX5_clean_61 (lv_at hl 3 rfl) ?_
        refine lv_iadd B.1.1 B.1.2.1 dX5_clean_63 ?_
        refine lv_iconst (v := (0 : Int32)) B.1.1 B.1.2.1 dX5_clean_64 (by decide) ?_
        obtain ⟨q2, hn, hw⟩ := hw
        subst hn
        replace hl : lv_has ls 5 [(0, .ref c0), (1, .int c1), (3, .int c3), (4, .int m4)] := hl
        obtain ⟨hok, hin9, hw⟩ := hw
        refine q_zast B h (x := (0 : Int32)) (by first | rfl | decide) dX5_clean_65 hok.1 hok.2 hin9 (fun H locs h9 => ?_)
        obtain ⟨S4, hS4, hh⟩ : ∃ z, z = sA S q2 (((8 : Int32) * c1) + m4).toNatClampNeg (0 : Int32) ∧ Hx D cs lo s z H _ := ⟨_, rfl, h9⟩
        clear h9
        replace h := hh
        clear hh
        replace hw := hw S4 hS4
        refine lv_iinc (i := 4) (v := (m4 + (1 : Int32))) (lv' := [(4, .int (m4 + (1 : Int32))), (0, .ref c0), (1, .int c1), (3, .int c3)]) B.1.1 B.1.2.1 dX5_clean_66 hl (k := 3) rfl rfl (by decide) rfl (fun ls hl9 => ?_)
        replace hl := hl9
        clear hl9
        refine lv_goto (tgt := 46) B.1.1 B.1.2.1 dX5_clean_69 (by decide) ?_
        exact ih (m4 + (1 : Int32)) _ _ _ ls h (lv_sub hl [1, 2, 3, 0] rfl) hw hk
  intro h hl hw
  replace hl : lv_has ls 5 [(0, .ref a0), (1, .int x1)] := hl
  refine lv_iload_n B.1.1 B.1.2.1 dX5_clean_0 rfl (lv_at hl 1 rfl) ?_
  refine q_callIS B h (met_X5_isPrinter l x1) (CB B 1 kC_X5_isPrinter kI_RX5 kM_RX5_112 hd_X5_isPrinter ⟨Nat.le_of_ble_eq_true rfl, Nat.le_of_ble_eq_true rfl⟩) kS_X5_isPrinter (rest := []) rfl rfl hl.1 (Nat.le_of_ble_eq_true rfl) dX5_clean_1 ⟨Nat.le_of_ble_eq_true rfl, Nat.le_of_ble_eq_true rfl⟩ hw (fun r1 S1 H locs hw9 h9 => ?_)
  replace hw := hw9
  clear hw9
  replace h := h9
  clear h9
  refine lv_istore_n (i := 2) (lv' := [(2, .int r1), (0, .ref a0), (1, .int x1)]) B.1.1 B.1.2.1 dX5_clean_4 rfl hl (by decide) rfl (fun ls hl9 => ?_)
  replace hl := hl9
  clear hl9
  refine lv_aload_n B.1.1 B.1.2.1 dX5_clean_5 rfl (lv_at hl 1 rfl) ?_
  refine lv_iload_n B.1.1 B.1.2.1 dX5_clean_6 rfl (lv_at hl 0 rfl) ?_
  refine lv_if_ne (tgt := 14) B.1.1 B.1.2.1 dX5_clean_7 (by decide) (fun hc => ?_) (fun hc => ?_)
  · replace hw := hw.1 hc
    refine lv_aload_n B.1.1 B.1.2.1 dX5_clean_14 rfl (lv_at hl 1 rfl) ?_
    obtain ⟨hok, hw⟩ := hw
    refine q_getR B h (ci := 5) (j := 16) (code := 176) rfl inT_5 (by decide) kF_RX5_53 rfl rfl rfl (by decide) dX5_clean_15 hok.1 hok.2 ?_
    obtain ⟨o1, hoo1⟩ : ∃ z, z = gR S1 176 a0 := ⟨_, rfl⟩
    rw [← hoo1]
    replace hw := hw o1 hoo1
    refine lv_iload_n B.1.1 B.1.2.1 dX5_clean_18 rfl (lv_at hl 2 rfl) ?_
    obtain ⟨q1, hn, hw⟩ := hw
    subst hn
    replace hl : lv_has ls 5 [(2, .int r1), (0, .ref a0), (1, .int x1)] := hl
    obtain ⟨hok, hin9, hw⟩ := hw
    refine q_iald B h dX5_clean_19 hok.1 hok.2 hin9 ?_
    refine lv_iconst (v := (-1 : Int32)) B.1.1 B.1.2.1 dX5_clean_20 (by decide) ?_
    refine lv_icmp_ne (tgt := 28) B.1.1 B.1.2.1 dX5_clean_21 (by decide) (fun hc => ?_) (fun hc => ?_)
    · replace hw := hw.1 hc
      refine lv_iconst (v := (2 : Int32)) B.1.1 B.1.2.1 dX5_clean_28 (by decide) ?_
      obtain ⟨hok, hw⟩ := hw
      refine q_callIV B h (met_X5_fails l a0 (2 : Int32)) (CB B 1 kC_X5_fails kI_RX5 kM_RX5_91 hd_X5_fails ⟨Nat.le_of_ble_eq_true rfl, Nat.le_of_ble_eq_true rfl⟩) kO_X5_fails kV_X5_fails (ci := 5) rfl (by decide) hok.1 hok.2 (rest := []) rfl rfl hl.1 (Nat.le_of_ble_eq_true rfl) dX5_clean_29 ⟨Nat.le_of_ble_eq_true rfl, Nat.le_of_ble_eq_true rfl⟩ hw (fun r2 S2 H locs hw9 h9 => ?_)
      replace hw := hw9
      clear hw9
      replace h := h9
      clear h9
      refine lv_if_eq (tgt := 37) B.1.1 B.1.2.1 dX5_clean_32 (by decide) (fun hc => ?_) (fun hc => ?_)
      · replace hw := hw.1 hc
        refine lv_aload_n B.1.1 B.1.2.1 dX5_clean_37 rfl (lv_at hl 1 rfl) ?_
        refine lv_iload_n B.1.1 B.1.2.1 dX5_clean_38 rfl (lv_at hl 2 rfl) ?_
        obtain ⟨hok, hw⟩ := hw
        refine q_callIV B h (met_X5_blocked l a0 x1) (CB B 1 kC_X5_blocked kI_RX5 kM_RX5_115 hd_X5_blocked ⟨Nat.le_of_ble_eq_true rfl, Nat.le_of_ble_eq_true rfl⟩) kO_X5_blocked kV_X5_blocked (ci := 5) rfl (by decide) hok.1 hok.2 (rest := []) rfl rfl hl.1 (Nat.le_of_ble_eq_true rfl) dX5_clean_39 ⟨Nat.le_of_ble_eq_true rfl, Nat.le_of_ble_eq_true rfl⟩ hw (fun r3 S3 H locs hw9 h9 => ?_)
        replace hw := hw9
        clear hw9
        replace h := h9
        clear h9
        refine lv_istore_n (i := 3) (lv' := [(3, .int r3), (2, .int r1), (0, .ref a0), (1, .int x1)]) B.1.1 B.1.2.1 dX5_clean_42 rfl hl (by decide) rfl (fun ls hl9 => ?_)
        replace hl := hl9
        clear hl9
        refine lv_iconst (v := (0 : Int32)) B.1.1 B.1.2.1 dX5_clean_43 (by decide) ?_
        refine lv_istore (i := 4) (lv' := [(4, .int (0 : Int32)), (3, .int r3), (2, .int r1), (0, .ref a0), (1, .int x1)]) B.1.1 B.1.2.1 dX5_clean_44 hl (by decide) rfl (fun ls hl9 => ?_)
        replace hl := hl9
        clear hl9
        obtain ⟨n1, hw⟩ := hw
        refine L46 a0 x1 r3 _ n1 (0 : Int32) _ _ _ ls h (lv_sub hl [3, 4, 1, 0] rfl) hw (fun u1 S5 H locs ls h9 hl9 hw9 => ?_)
        replace hw := hw9
        clear hw9
        replace h := h9
        clear h9
        replace hl := hl9
        clear hl9
        refine lv_aload_n B.1.1 B.1.2.1 dX5_clean_72 rfl (lv_at hl 0 rfl) ?_
        obtain ⟨hok, hw⟩ := hw
        refine q_getR B h (ci := 5) (j := 15) (code := 175) rfl inT_5 (by decide) kF_RX5_50 rfl rfl rfl (by decide) dX5_clean_73 hok.1 hok.2 ?_
        obtain ⟨o3, hoo3⟩ : ∃ z, z = gR S5 175 a0 := ⟨_, rfl⟩
        rw [← hoo3]
        replace hw := hw o3 hoo3
        refine lv_iload_n B.1.1 B.1.2.1 dX5_clean_76 rfl (lv_at hl 1 rfl) ?_
        refine lv_dup2_11 B.1.1 B.1.2.1 dX5_clean_77 rfl (rf_cat _) ?_
        obtain ⟨q3, hn, hw⟩ := hw
        subst hn
        replace hl : lv_has ls 5 [(0, .ref a0), (1, .int x1), (3, .int r3), (4, .int u1)] := hl
        obtain ⟨hok, hin9, hw⟩ := hw
        refine q_iald B h dX5_clean_78 hok.1 hok.2 hin9 ?_
        refine lv_bipush (v := (20 : Int32)) B.1.1 B.1.2.1 dX5_clean_79 (by decide) ?_
        refine lv_iadd B.1.1 B.1.2.1 dX5_clean_81 ?_
        obtain ⟨hok, hin9, hw⟩ := hw
        refine q_iast B h dX5_clean_82 hok.1 hok.2 hin9 (fun H locs h9 => ?_)
        obtain ⟨S6, hS6, hh⟩ : ∃ z, z = sA S5 q3 x1.toNatClampNeg ((gA S5 q3 x1.toNatClampNeg) + (20 : Int32)) ∧ Hx D cs lo s z H _ := ⟨_, rfl, h9⟩
        clear h9
        replace h := hh
        clear hh
        replace hw := hw S6 hS6
        refine lv_iload_n B.1.1 B.1.2.1 dX5_clean_83 rfl (lv_at hl 2 rfl) ?_
        exact q_iret B hr hlk h hw dX5_clean_84 (Nat.le_of_ble_eq_true rfl) (Nat.le_of_ble_eq_true rfl)
      · replace hw := hw.2 hc
        refine lv_iconst (v := (0 : Int32)) B.1.1 B.1.2.1 dX5_clean_35 (by decide) ?_
        exact q_iret B hr hlk h hw dX5_clean_36 (Nat.le_of_ble_eq_true rfl) (Nat.le_of_ble_eq_true rfl)
    · replace hw := hw.2 hc
      refine lv_iconst (v := (0 : Int32)) B.1.1 B.1.2.1 dX5_clean_24 (by decide) ?_
      refine lv_goto (tgt := 29) B.1.1 B.1.2.1 dX5_clean_25 (by decide) ?_
      obtain ⟨hok, hw⟩ := hw
      refine q_callIV B h (met_X5_fails l a0 (0 : Int32)) (CB B 1 kC_X5_fails kI_RX5 kM_RX5_91 hd_X5_fails ⟨Nat.le_of_ble_eq_true rfl, Nat.le_of_ble_eq_true rfl⟩) kO_X5_fails kV_X5_fails (ci := 5) rfl (by decide) hok.1 hok.2 (rest := []) rfl rfl hl.1 (Nat.le_of_ble_eq_true rfl) dX5_clean_29 ⟨Nat.le_of_ble_eq_true rfl, Nat.le_of_ble_eq_true rfl⟩ hw (fun r4 S7 H locs hw9 h9 => ?_)
      replace hw := hw9
      clear hw9
      replace h := h9
      clear h9
      refine lv_if_eq (tgt := 37) B.1.1 B.1.2.1 dX5_clean_32 (by decide) (fun hc => ?_) (fun hc => ?_)
      · replace hw := hw.1 hc
        refine lv_aload_n B.1.1 B.1.2.1 dX5_clean_37 rfl (lv_at hl 1 rfl) ?_
        refine lv_iload_n B.1.1 B.1.2.1 dX5_clean_38 rfl (lv_at hl 2 rfl) ?_
        obtain ⟨hok, hw⟩ := hw
        refine q_callIV B h (met_X5_blocked l a0 x1) (CB B 1 kC_X5_blocked kI_RX5 kM_RX5_115 hd_X5_blocked ⟨Nat.le_of_ble_eq_true rfl, Nat.le_of_ble_eq_true rfl⟩) kO_X5_blocked kV_X5_blocked (ci := 5) rfl (by decide) hok.1 hok.2 (rest := []) rfl rfl hl.1 (Nat.le_of_ble_eq_true rfl) dX5_clean_39 ⟨Nat.le_of_ble_eq_true rfl, Nat.le_of_ble_eq_true rfl⟩ hw (fun r5 S8 H locs hw9 h9 => ?_)
        replace hw := hw9
        clear hw9
        replace h := h9
        clear h9
        refine lv_istore_n (i := 3) (lv' := [(3, .int r5), (2, .int r1), (0, .ref a0), (1, .int x1)]) B.1.1 B.1.2.1 dX5_clean_42 rfl hl (by decide) rfl (fun ls hl9 => ?_)
        replace hl := hl9
        clear hl9
        refine lv_iconst (v := (0 : Int32)) B.1.1 B.1.2.1 dX5_clean_43 (by decide) ?_
        refine lv_istore (i := 4) (lv' := [(4, .int (0 : Int32)), (3, .int r5), (2, .int r1), (0, .ref a0), (1, .int x1)]) B.1.1 B.1.2.1 dX5_clean_44 hl (by decide) rfl (fun ls hl9 => ?_)
        replace hl := hl9
        clear hl9
        obtain ⟨n2, hw⟩ := hw
        refine L46 a0 x1 r5 _ n2 (0 : Int32) _ _ _ ls h (lv_sub hl [3, 4, 1, 0] rfl) hw (fun u2 S9 H locs ls h9 hl9 hw9 => ?_)
        replace hw := hw9
        clear hw9
        replace h := h9
        clear h9
        replace hl := hl9
        clear hl9
        refine lv_aload_n B.1.1 B.1.2.1 dX5_clean_72 rfl (lv_at hl 0 rfl) ?_
        obtain ⟨hok, hw⟩ := hw
        refine q_getR B h (ci := 5) (j := 15) (code := 175) rfl inT_5 (by decide) kF_RX5_50 rfl rfl rfl (by decide) dX5_clean_73 hok.1 hok.2 ?_
        obtain ⟨o4, hoo4⟩ : ∃ z, z = gR S9 175 a0 := ⟨_, rfl⟩
        rw [← hoo4]
        replace hw := hw o4 hoo4
        refine lv_iload_n B.1.1 B.1.2.1 dX5_clean_76 rfl (lv_at hl 1 rfl) ?_
        refine lv_dup2_11 B.1.1 B.1.2.1 dX5_clean_77 rfl (rf_cat _) ?_
        obtain ⟨q4, hn, hw⟩ := hw
        subst hn
        replace hl : lv_has ls 5 [(0, .ref a0), (1, .int x1), (3, .int r5), (4, .int u2)] := hl
        obtain ⟨hok, hin9, hw⟩ := hw
        refine q_iald B h dX5_clean_78 hok.1 hok.2 hin9 ?_
        refine lv_bipush (v := (20 : Int32)) B.1.1 B.1.2.1 dX5_clean_79 (by decide) ?_
        refine lv_iadd B.1.1 B.1.2.1 dX5_clean_81 ?_
        obtain ⟨hok, hin9, hw⟩ := hw
        refine q_iast B h dX5_clean_82 hok.1 hok.2 hin9 (fun H locs h9 => ?_)
        obtain ⟨S10, hS10, hh⟩ : ∃ z, z = sA S9 q4 x1.toNatClampNeg ((gA S9 q4 x1.toNatClampNeg) + (20 : Int32)) ∧ Hx D cs lo s z H _ := ⟨_, rfl, h9⟩
        clear h9
        replace h := hh
        clear hh
        replace hw := hw S10 hS10
        refine lv_iload_n B.1.1 B.1.2.1 dX5_clean_83 rfl (lv_at hl 2 rfl) ?_
        exact q_iret B hr hlk h hw dX5_clean_84 (Nat.le_of_ble_eq_true rfl) (Nat.le_of_ble_eq_true rfl)
      · replace hw := hw.2 hc
        refine lv_iconst (v := (0 : Int32)) B.1.1 B.1.2.1 dX5_clean_35 (by decide) ?_
        exact q_iret B hr hlk h hw dX5_clean_36 (Nat.le_of_ble_eq_true rfl) (Nat.le_of_ble_eq_true rfl)
  · replace hw := hw.2 hc
    refine lv_iconst (v := (1 : Int32)) B.1.1 B.1.2.1 dX5_clean_10 (by decide) ?_
    refine lv_goto (tgt := 29) B.1.1 B.1.2.1 dX5_clean_11 (by decide) ?_
    obtain ⟨hok, hw⟩ := hw
    refine q_callIV B h (met_X5_fails l a0 (1 : Int32)) (CB B 1 kC_X5_fails kI_RX5 kM_RX5_91 hd_X5_fails ⟨Nat.le_of_ble_eq_true rfl, Nat.le_of_ble_eq_true rfl⟩) kO_X5_fails kV_X5_fails (ci := 5) rfl (by decide) hok.1 hok.2 (rest := []) rfl rfl hl.1 (Nat.le_of_ble_eq_true rfl) dX5_clean_29 ⟨Nat.le_of_ble_eq_true rfl, Nat.le_of_ble_eq_true rfl⟩ hw (fun r6 S11 H locs hw9 h9 => ?_)
    replace hw := hw9
    clear hw9
    replace h := h9
    clear h9
    refine lv_if_eq (tgt := 37) B.1.1 B.1.2.1 dX5_clean_32 (by decide) (fun hc => ?_) (fun hc => ?_)
    · replace hw := hw.1 hc
      refine lv_aload_n B.1.1 B.1.2.1 dX5_clean_37 rfl (lv_at hl 1 rfl) ?_
      refine lv_iload_n B.1.1 B.1.2.1 dX5_clean_38 rfl (lv_at hl 2 rfl) ?_
      obtain ⟨hok, hw⟩ := hw
      refine q_callIV B h (met_X5_blocked l a0 x1) (CB B 1 kC_X5_blocked kI_RX5 kM_RX5_115 hd_X5_blocked ⟨Nat.le_of_ble_eq_true rfl, Nat.le_of_ble_eq_true rfl⟩) kO_X5_blocked kV_X5_blocked (ci := 5) rfl (by decide) hok.1 hok.2 (rest := []) rfl rfl hl.1 (Nat.le_of_ble_eq_true rfl) dX5_clean_39 ⟨Nat.le_of_ble_eq_true rfl, Nat.le_of_ble_eq_true rfl⟩ hw (fun r7 S12 H locs hw9 h9 => ?_)
      replace hw := hw9
      clear hw9
      replace h := h9
      clear h9
      refine lv_istore_n (i := 3) (lv' := [(3, .int r7), (2, .int r1), (0, .ref a0), (1, .int x1)]) B.1.1 B.1.2.1 dX5_clean_42 rfl hl (by decide) rfl (fun ls hl9 => ?_)
      replace hl := hl9
      clear hl9
      refine lv_iconst (v := (0 : Int32)) B.1.1 B.1.2.1 dX5_clean_43 (by decide) ?_
      refine lv_istore (i := 4) (lv' := [(4, .int (0 : Int32)), (3, .int r7), (2, .int r1), (0, .ref a0), (1, .int x1)]) B.1.1 B.1.2.1 dX5_clean_44 hl (by decide) rfl (fun ls hl9 => ?_)
      replace hl := hl9
      clear hl9
      obtain ⟨n3, hw⟩ := hw
      refine L46 a0 x1 r7 _ n3 (0 : Int32) _ _ _ ls h (lv_sub hl [3, 4, 1, 0] rfl) hw (fun u3 S13 H locs ls h9 hl9 hw9 => ?_)
      replace hw := hw9
      clear hw9
      replace h := h9
      clear h9
      replace hl := hl9
      clear hl9
      refine lv_aload_n B.1.1 B.1.2.1 dX5_clean_72 rfl (lv_at hl 0 rfl) ?_
      obtain ⟨hok, hw⟩ := hw
      refine q_getR B h (ci := 5) (j := 15) (code := 175) rfl inT_5 (by decide) kF_RX5_50 rfl rfl rfl (by decide) dX5_clean_73 hok.1 hok.2 ?_
      obtain ⟨o5, hoo5⟩ : ∃ z, z = gR S13 175 a0 := ⟨_, rfl⟩
      rw [← hoo5]
      replace hw := hw o5 hoo5
      refine lv_iload_n B.1.1 B.1.2.1 dX5_clean_76 rfl (lv_at hl 1 rfl) ?_
      refine lv_dup2_11 B.1.1 B.1.2.1 dX5_clean_77 rfl (rf_cat _) ?_
      obtain ⟨q5, hn, hw⟩ := hw
      subst hn
      replace hl : lv_has ls 5 [(0, .ref a0), (1, .int x1), (3, .int r7), (4, .int u3)] := hl
      obtain ⟨hok, hin9, hw⟩ := hw
      refine q_iald B h dX5_clean_78 hok.1 hok.2 hin9 ?_
      refine lv_bipush (v := (20 : Int32)) B.1.1 B.1.2.1 dX5_clean_79 (by decide) ?_
      refine lv_iadd B.1.1 B.1.2.1 dX5_clean_81 ?_
      obtain ⟨hok, hin9, hw⟩ := hw
      refine q_iast B h dX5_clean_82 hok.1 hok.2 hin9 (fun H locs h9 => ?_)
      obtain ⟨S14, hS14, hh⟩ : ∃ z, z = sA S13 q5 x1.toNatClampNeg ((gA S13 q5 x1.toNatClampNeg) + (20 : Int32)) ∧ Hx D cs lo s z H _ := ⟨_, rfl, h9⟩
      clear h9
      replace h := hh
      clear hh
      replace hw := hw S14 hS14
      refine lv_iload_n B.1.1 B.1.2.1 dX5_clean_83 rfl (lv_at hl 2 rfl) ?_
      exact q_iret B hr hlk h hw dX5_clean_84 (Nat.le_of_ble_eq_true rfl) (Nat.le_of_ble_eq_true rfl)
    · replace hw := hw.2 hc
      refine lv_iconst (v := (0 : Int32)) B.1.1 B.1.2.1 dX5_clean_35 (by decide) ?_
      exact q_iret B hr hlk h hw dX5_clean_36 (Nat.le_of_ble_eq_true rfl) (Nat.le_of_ble_eq_true rfl)
set_option maxHeartbeats 4000000 in
set_option maxRecDepth 100000 in
theorem met_X5_patch (l : Launch) (a0 : Nat) (x1 : Int32) (x2 : Int32) (x3 : Int32) : MI l yX5_patch cX5_patch 6 (some .int) 4 87 0 0 [.ref a0, .int x1, .int x2, .int x3] (wX5_patch a0 x1 x2 x3) := by
  refine MI.of (by decide) (Nat.le_of_ble_eq_true rfl) ?_
  intro p e s m below meth c D cs lo S Q ls B hr hlk hin
  have L57 : ∀ (c0 : Nat) (c1 : Int32) (c2 : Int32) (c3 : Int32) (K : Int32 → HS → Prop) (n : Nat) (m5 : Int32) (S : HS) (H : Heap) (locs : List Loc) (ls : Array Slot), Hx D cs lo s S H locs → lv_has ls 6 [(0, .ref c0), (1, .int c1), (2, .int c2), (3, .int c3), (5, .int m5)] → wX5_patch_L57 c0 c1 c2 c3 n m5 S K → (∀ (m5 : Int32) (S : HS) (H : Heap) (locs : List Loc) (ls : Array Slot), Hx D cs lo s S H locs → lv_has ls 6 [(0, .ref c0), (1, .int c1), (2, .int c2), (3, .int c3), (5, .int m5)] → K m5 S → W p l e ({ frames := 4, cells := 0, slots := 0, locals := 87 } : Room) s m [.ref a0, .int x1, .int x2, .int x3].toArray below meth c H locs 0 0 (MQ below (va_Qi Q (fun S' t => hp D cs lo S' t.heap) (fun q => lo ≤ q)) [.ref a0, .int x1, .int x2, .int x3].toArray s 0 0 (fun q => lo ≤ q)) (F0 m 78 ls [])) → W p l e ({ frames := 4, cells := 0, slots := 0, locals := 87 } : Room) s m [.ref a0, .int x1, .int x2, .int x3].toArray below meth c H locs 0 0 (MQ below (va_Qi Q (fun S' t => hp D cs lo S' t.heap) (fun q => lo ≤ q)) [.ref a0, .int x1, .int x2, .int x3].toArray s 0 0 (fun q => lo ≤ q)) (F0 m 57 ls []) := by
    intro c0 c1 c2 c3 K n
    induction n with
    | zero => intro m5 S H locs ls h hl hw hk; exact False.elim hw
    | succ n ih =>
      intro m5 S H locs ls h hl hw hk
      refine lv_iload B.1.1 B.1.2.1 dX5_patch_57 (lv_at hl 4 rfl) ?_
      refine lv_bipush (v := (8 : Int32)) B.1.1 B.1.2.1 dX5_patch_59 (by decide) ?_
      refine lv_icmp_ge (tgt := 78) B.1.1 B.1.2.1 dX5_patch_61 (by decide) (fun hc => ?_) (fun hc => ?_)
      · replace hw := hw.1 hc
        exact hk m5 _ _ _ ls h (lv_sub hl [0, 1, 2, 3, 4] rfl) hw
      · replace hw := hw.2 hc
        refine lv_aload_n B.1.1 B.1.2.1 dX5_patch_64 rfl (lv_at hl 0 rfl) ?_
        refine lv_iload_n B.1.1 B.1.2.1 dX5_patch_65 rfl (lv_at hl 1 rfl) ?_
        refine lv_iload B.1.1 B.1.2.1 dX5_patch_66 (lv_at hl 4 rfl) ?_
        refine lv_iload_n B.1.1 B.1.2.1 dX5_patch_68 rfl (lv_at hl 3 rfl) ?_
        obtain ⟨hok, hw⟩ := hw
        refine q_callVV B h (met_X5_wants l c0 c1 m5 c3) (CB B 3 kC_X5_wants kI_RX5 kM_RX5_121 hd_X5_wants ⟨Nat.le_of_ble_eq_true rfl, Nat.le_of_ble_eq_true rfl⟩) kO_X5_wants kV_X5_wants (ci := 5) rfl (by decide) hok.1 hok.2 (rest := []) rfl rfl hl.1 (Nat.le_of_ble_eq_true rfl) dX5_patch_69 ⟨Nat.le_of_ble_eq_true rfl, Nat.le_of_ble_eq_true rfl⟩ hw (fun S4 H locs hw9 h9 => ?_)
        replace hw := hw9
        clear hw9
        replace h := h9
        clear h9
        refine lv_iinc (i := 5) (v := (m5 + (1 : Int32))) (lv' := [(5, .int (m5 + (1 : Int32))), (0, .ref c0), (1, .int c1), (2, .int c2), (3, .int c3)]) B.1.1 B.1.2.1 dX5_patch_72 hl (k := 4) rfl rfl (by decide) rfl (fun ls hl9 => ?_)
        replace hl := hl9
        clear hl9
        refine lv_goto (tgt := 57) B.1.1 B.1.2.1 dX5_patch_75 (by decide) ?_
        exact ih (m5 + (1 : Int32)) _ _ _ ls h (lv_sub hl [1, 2, 3, 4, 0] rfl) hw hk
  have J19 : ∀ (v0 : Nat) (v1 : Int32) (v2 : Int32) (v3 : Int32) (t0 : Int32) (S : HS) (H : Heap) (locs : List Loc) (ls : Array Slot), Hx D cs lo s S H locs → lv_has ls 6 [(0, .ref v0), (1, .int v1), (2, .int v2), (3, .int v3)] → wX5_patch_J19 v0 v1 v2 v3 t0 S Q → W p l e ({ frames := 4, cells := 0, slots := 0, locals := 87 } : Room) s m [.ref a0, .int x1, .int x2, .int x3].toArray below meth c H locs 0 0 (MQ below (va_Qi Q (fun S' t => hp D cs lo S' t.heap) (fun q => lo ≤ q)) [.ref a0, .int x1, .int x2, .int x3].toArray s 0 0 (fun q => lo ≤ q)) (F0 m 19 ls [.int t0]) := by
    intro v0 v1 v2 v3 t0 S H locs ls h hl hw
    refine lv_istore (i := 4) (lv' := [(4, .int t0), (0, .ref v0), (1, .int v1), (2, .int v2), (3, .int v3)]) B.1.1 B.1.2.1 dX5_patch_19 hl (by decide) rfl (fun ls hl9 => ?_)
    replace hl := hl9
    clear hl9
    refine lv_aload_n B.1.1 B.1.2.1 dX5_patch_21 rfl (lv_at hl 1 rfl) ?_
    refine lv_iload B.1.1 B.1.2.1 dX5_patch_22 (lv_at hl 0 rfl) ?_
    refine lv_if_ne (tgt := 31) B.1.1 B.1.2.1 dX5_patch_24 (by decide) (fun hc => ?_) (fun hc => ?_)
    · replace hw := hw.1 hc
      refine lv_iload_n B.1.1 B.1.2.1 dX5_patch_31 rfl (lv_at hl 4 rfl) ?_
      refine lv_iconst (v := (0 : Int32)) B.1.1 B.1.2.1 dX5_patch_32 (by decide) ?_
      refine lv_bipush (v := (15 : Int32)) B.1.1 B.1.2.1 dX5_patch_33 (by decide) ?_
      refine q_callIS B h (met_X5_isIn l v3 (0 : Int32) (15 : Int32)) (CB B 3 kC_X5_isIn kI_RX5 kM_RX5_69 hd_X5_isIn ⟨Nat.le_of_ble_eq_true rfl, Nat.le_of_ble_eq_true rfl⟩) kS_X5_isIn (rest := [.ref v0]) rfl rfl hl.1 (Nat.le_of_ble_eq_true rfl) dX5_patch_35 ⟨Nat.le_of_ble_eq_true rfl, Nat.le_of_ble_eq_true rfl⟩ hw (fun r2 S2 H locs hw9 h9 => ?_)
      replace hw := hw9
      clear hw9
      replace h := h9
      clear h9
      refine lv_if_eq (tgt := 45) B.1.1 B.1.2.1 dX5_patch_38 (by decide) (fun hc => ?_) (fun hc => ?_)
      · replace hw := hw.1 hc
        refine lv_iconst (v := (2 : Int32)) B.1.1 B.1.2.1 dX5_patch_45 (by decide) ?_
        obtain ⟨hok, hw⟩ := hw
        refine q_callIV B h (met_X5_fails l v0 (2 : Int32)) (CB B 1 kC_X5_fails kI_RX5 kM_RX5_91 hd_X5_fails ⟨Nat.le_of_ble_eq_true rfl, Nat.le_of_ble_eq_true rfl⟩) kO_X5_fails kV_X5_fails (ci := 5) rfl (by decide) hok.1 hok.2 (rest := []) rfl rfl hl.1 (Nat.le_of_ble_eq_true rfl) dX5_patch_46 ⟨Nat.le_of_ble_eq_true rfl, Nat.le_of_ble_eq_true rfl⟩ hw (fun r3 S3 H locs hw9 h9 => ?_)
        replace hw := hw9
        clear hw9
        replace h := h9
        clear h9
        refine lv_if_eq (tgt := 54) B.1.1 B.1.2.1 dX5_patch_49 (by decide) (fun hc => ?_) (fun hc => ?_)
        · replace hw := hw.1 hc
          refine lv_iconst (v := (0 : Int32)) B.1.1 B.1.2.1 dX5_patch_54 (by decide) ?_
          refine lv_istore (i := 5) (lv' := [(5, .int (0 : Int32)), (4, .int t0), (0, .ref v0), (1, .int v1), (2, .int v2), (3, .int v3)]) B.1.1 B.1.2.1 dX5_patch_55 hl (by decide) rfl (fun ls hl9 => ?_)
          replace hl := hl9
          clear hl9
          obtain ⟨n1, hw⟩ := hw
          refine L57 v0 v1 v2 v3 _ n1 (0 : Int32) _ _ _ ls h (lv_sub hl [2, 3, 4, 5, 0] rfl) hw (fun u1 S5 H locs ls h9 hl9 hw9 => ?_)
          replace hw := hw9
          clear hw9
          replace h := h9
          clear h9
          replace hl := hl9
          clear hl9
          refine lv_aload_n B.1.1 B.1.2.1 dX5_patch_78 rfl (lv_at hl 0 rfl) ?_
          refine lv_iload_n B.1.1 B.1.2.1 dX5_patch_79 rfl (lv_at hl 1 rfl) ?_
          refine lv_iload_n B.1.1 B.1.2.1 dX5_patch_80 rfl (lv_at hl 2 rfl) ?_
          obtain ⟨hok, hw⟩ := hw
          refine q_callIV B h (met_X5_nozzle l v0 v1 v2) (CB B 2 kC_X5_nozzle kI_RX5 kM_RX5_125 hd_X5_nozzle ⟨Nat.le_of_ble_eq_true rfl, Nat.le_of_ble_eq_true rfl⟩) kO_X5_nozzle kV_X5_nozzle (ci := 5) rfl (by decide) hok.1 hok.2 (rest := []) rfl rfl hl.1 (Nat.le_of_ble_eq_true rfl) dX5_patch_81 ⟨Nat.le_of_ble_eq_true rfl, Nat.le_of_ble_eq_true rfl⟩ hw (fun r4 S6 H locs hw9 h9 => ?_)
          replace hw := hw9
          clear hw9
          replace h := h9
          clear h9
          exact q_iret B hr hlk h hw dX5_patch_84 (Nat.le_of_ble_eq_true rfl) (Nat.le_of_ble_eq_true rfl)
        · replace hw := hw.2 hc
          refine lv_iconst (v := (0 : Int32)) B.1.1 B.1.2.1 dX5_patch_52 (by decide) ?_
          exact q_iret B hr hlk h hw dX5_patch_53 (Nat.le_of_ble_eq_true rfl) (Nat.le_of_ble_eq_true rfl)
      · replace hw := hw.2 hc
        refine lv_iconst (v := (0 : Int32)) B.1.1 B.1.2.1 dX5_patch_41 (by decide) ?_
        refine lv_goto (tgt := 46) B.1.1 B.1.2.1 dX5_patch_42 (by decide) ?_
        obtain ⟨hok, hw⟩ := hw
        refine q_callIV B h (met_X5_fails l v0 (0 : Int32)) (CB B 1 kC_X5_fails kI_RX5 kM_RX5_91 hd_X5_fails ⟨Nat.le_of_ble_eq_true rfl, Nat.le_of_ble_eq_true rfl⟩) kO_X5_fails kV_X5_fails (ci := 5) rfl (by decide) hok.1 hok.2 (rest := []) rfl rfl hl.1 (Nat.le_of_ble_eq_true rfl) dX5_patch_46 ⟨Nat.le_of_ble_eq_true rfl, Nat.le_of_ble_eq_true rfl⟩ hw (fun r5 S7 H locs hw9 h9 => ?_)
        replace hw := hw9
        clear hw9
        replace h := h9
        clear h9
        refine lv_if_eq (tgt := 54) B.1.1 B.1.2.1 dX5_patch_49 (by decide) (fun hc => ?_) (fun hc => ?_)
        · replace hw := hw.1 hc
          refine lv_iconst (v := (0 : Int32)) B.1.1 B.1.2.1 dX5_patch_54 (by decide) ?_
          refine lv_istore (i := 5) (lv' := [(5, .int (0 : Int32)), (4, .int t0), (0, .ref v0), (1, .int v1), (2, .int v2), (3, .int v3)]) B.1.1 B.1.2.1 dX5_patch_55 hl (by decide) rfl (fun ls hl9 => ?_)
          replace hl := hl9
          clear hl9
          obtain ⟨n2, hw⟩ := hw
          refine L57 v0 v1 v2 v3 _ n2 (0 : Int32) _ _ _ ls h (lv_sub hl [2, 3, 4, 5, 0] rfl) hw (fun u2 S8 H locs ls h9 hl9 hw9 => ?_)
          replace hw := hw9
          clear hw9
          replace h := h9
          clear h9
          replace hl := hl9
          clear hl9
          refine lv_aload_n B.1.1 B.1.2.1 dX5_patch_78 rfl (lv_at hl 0 rfl) ?_
          refine lv_iload_n B.1.1 B.1.2.1 dX5_patch_79 rfl (lv_at hl 1 rfl) ?_
          refine lv_iload_n B.1.1 B.1.2.1 dX5_patch_80 rfl (lv_at hl 2 rfl) ?_
          obtain ⟨hok, hw⟩ := hw
          refine q_callIV B h (met_X5_nozzle l v0 v1 v2) (CB B 2 kC_X5_nozzle kI_RX5 kM_RX5_125 hd_X5_nozzle ⟨Nat.le_of_ble_eq_true rfl, Nat.le_of_ble_eq_true rfl⟩) kO_X5_nozzle kV_X5_nozzle (ci := 5) rfl (by decide) hok.1 hok.2 (rest := []) rfl rfl hl.1 (Nat.le_of_ble_eq_true rfl) dX5_patch_81 ⟨Nat.le_of_ble_eq_true rfl, Nat.le_of_ble_eq_true rfl⟩ hw (fun r6 S9 H locs hw9 h9 => ?_)
          replace hw := hw9
          clear hw9
          replace h := h9
          clear h9
          exact q_iret B hr hlk h hw dX5_patch_84 (Nat.le_of_ble_eq_true rfl) (Nat.le_of_ble_eq_true rfl)
        · replace hw := hw.2 hc
          refine lv_iconst (v := (0 : Int32)) B.1.1 B.1.2.1 dX5_patch_52 (by decide) ?_
          exact q_iret B hr hlk h hw dX5_patch_53 (Nat.le_of_ble_eq_true rfl) (Nat.le_of_ble_eq_true rfl)
    · replace hw := hw.2 hc
      refine lv_iconst (v := (1 : Int32)) B.1.1 B.1.2.1 dX5_patch_27 (by decide) ?_
      refine lv_goto (tgt := 46) B.1.1 B.1.2.1 dX5_patch_28 (by decide) ?_
      obtain ⟨hok, hw⟩ := hw
      refine q_callIV B h (met_X5_fails l v0 (1 : Int32)) (CB B 1 kC_X5_fails kI_RX5 kM_RX5_91 hd_X5_fails ⟨Nat.le_of_ble_eq_true rfl, Nat.le_of_ble_eq_true rfl⟩) kO_X5_fails kV_X5_fails (ci := 5) rfl (by decide) hok.1 hok.2 (rest := []) rfl rfl hl.1 (Nat.le_of_ble_eq_true rfl) dX5_patch_46 ⟨Nat.le_of_ble_eq_true rfl, Nat.le_of_ble_eq_true rfl⟩ hw (fun r7 S10 H locs hw9 h9 => ?_)
      replace hw := hw9
      clear hw9
      replace h := h9
      clear h9
      refine lv_if_eq (tgt := 54) B.1.1 B.1.2.1 dX5_patch_49 (by decide) (fun hc => ?_) (fun hc => ?_)
      · replace hw := hw.1 hc
        refine lv_iconst (v := (0 : Int32)) B.1.1 B.1.2.1 dX5_patch_54 (by decide) ?_
        refine lv_istore (i := 5) (lv' := [(5, .int (0 : Int32)), (4, .int t0), (0, .ref v0), (1, .int v1), (2, .int v2), (3, .int v3)]) B.1.1 B.1.2.1 dX5_patch_55 hl (by decide) rfl (fun ls hl9 => ?_)
        replace hl := hl9
        clear hl9
        obtain ⟨n3, hw⟩ := hw
        refine L57 v0 v1 v2 v3 _ n3 (0 : Int32) _ _ _ ls h (lv_sub hl [2, 3, 4, 5, 0] rfl) hw (fun u3 S11 H locs ls h9 hl9 hw9 => ?_)
        replace hw := hw9
        clear hw9
        replace h := h9
        clear h9
        replace hl := hl9
        clear hl9
        refine lv_aload_n B.1.1 B.1.2.1 dX5_patch_78 rfl (lv_at hl 0 rfl) ?_
        refine lv_iload_n B.1.1 B.1.2.1 dX5_patch_79 rfl (lv_at hl 1 rfl) ?_
        refine lv_iload_n B.1.1 B.1.2.1 dX5_patch_80 rfl (lv_at hl 2 rfl) ?_
        obtain ⟨hok, hw⟩ := hw
        refine q_callIV B h (met_X5_nozzle l v0 v1 v2) (CB B 2 kC_X5_nozzle kI_RX5 kM_RX5_125 hd_X5_nozzle ⟨Nat.le_of_ble_eq_true rfl, Nat.le_of_ble_eq_true rfl⟩) kO_X5_nozzle kV_X5_nozzle (ci := 5) rfl (by decide) hok.1 hok.2 (rest := []) rfl rfl hl.1 (Nat.le_of_ble_eq_true rfl) dX5_patch_81 ⟨Nat.le_of_ble_eq_true rfl, Nat.le_of_ble_eq_true rfl⟩ hw (fun r8 S12 H locs hw9 h9 => ?_)
        replace hw := hw9
        clear hw9
        replace h := h9
        clear h9
        exact q_iret B hr hlk h hw dX5_patch_84 (Nat.le_of_ble_eq_true rfl) (Nat.le_of_ble_eq_true rfl)
      · replace hw := hw.2 hc
        refine lv_iconst (v := (0 : Int32)) B.1.1 B.1.2.1 dX5_patch_52 (by decide) ?_
        exact q_iret B hr hlk h hw dX5_patch_53 (Nat.le_of_ble_eq_true rfl) (Nat.le_of_ble_eq_true rfl)
  have J18 : ∀ (v0 : Nat) (v1 : Int32) (v2 : Int32) (v3 : Int32) (S : HS) (H : Heap) (locs : List Loc) (ls : Array Slot), Hx D cs lo s S H locs → lv_has ls 6 [(0, .ref v0), (1, .int v1), (2, .int v2), (3, .int v3)] → wX5_patch_J18 v0 v1 v2 v3 S Q → W p l e ({ frames := 4, cells := 0, slots := 0, locals := 87 } : Room) s m [.ref a0, .int x1, .int x2, .int x3].toArray below meth c H locs 0 0 (MQ below (va_Qi Q (fun S' t => hp D cs lo S' t.heap) (fun q => lo ≤ q)) [.ref a0, .int x1, .int x2, .int x3].toArray s 0 0 (fun q => lo ≤ q)) (F0 m 18 ls []) := by
    intro v0 v1 v2 v3 S H locs ls h hl hw
    refine lv_iconst (v := (0 : Int32)) B.1.1 B.1.2.1 dX5_patch_18 (by decide) ?_
    exact J19 v0 v1 v2 v3 (0 : Int32) _ _ _ ls h (lv_sub hl [0, 1, 2, 3] rfl) hw
  intro h hl hw
  replace hl : lv_has ls 6 [(0, .ref a0), (1, .int x1), (2, .int x2), (3, .int x3)] := hl
  refine lv_iload_n B.1.1 B.1.2.1 dX5_patch_0 rfl (lv_at hl 1 rfl) ?_
  refine q_callIS B h (met_X5_isPrinter l x1) (CB B 1 kC_X5_isPrinter kI_RX5 kM_RX5_112 hd_X5_isPrinter ⟨Nat.le_of_ble_eq_true rfl, Nat.le_of_ble_eq_true rfl⟩) kS_X5_isPrinter (rest := []) rfl rfl hl.1 (Nat.le_of_ble_eq_true rfl) dX5_patch_1 ⟨Nat.le_of_ble_eq_true rfl, Nat.le_of_ble_eq_true rfl⟩ hw (fun r1 S1 H locs hw9 h9 => ?_)
  replace hw := hw9
  clear hw9
  replace h := h9
  clear h9
  refine lv_if_eq (tgt := 18) B.1.1 B.1.2.1 dX5_patch_4 (by decide) (fun hc => ?_) (fun hc => ?_)
  · replace hw := hw.1 hc
    exact J18 a0 x1 x2 x3 _ _ _ ls h (lv_sub hl [0, 1, 2, 3] rfl) hw
  · replace hw := hw.2 hc
    refine lv_iload_n B.1.1 B.1.2.1 dX5_patch_7 rfl (lv_at hl 2 rfl) ?_
    refine q_callIS B h (met_X5_isRow l x2) (CB B 1 kC_X5_isRow kI_RX5 kM_RX5_81 hd_X5_isRow ⟨Nat.le_of_ble_eq_true rfl, Nat.le_of_ble_eq_true rfl⟩) kS_X5_isRow (rest := []) rfl rfl hl.1 (Nat.le_of_ble_eq_true rfl) dX5_patch_8 ⟨Nat.le_of_ble_eq_true rfl, Nat.le_of_ble_eq_true rfl⟩ hw (fun r9 S13 H locs hw9 h9 => ?_)
    replace hw := hw9
    clear hw9
    replace h := h9
    clear h9
    refine lv_if_eq (tgt := 18) B.1.1 B.1.2.1 dX5_patch_11 (by decide) (fun hc => ?_) (fun hc => ?_)
    · replace hw := hw.1 hc
      exact J18 a0 x1 x2 x3 _ _ _ ls h (lv_sub hl [0, 1, 2, 3] rfl) hw
    · replace hw := hw.2 hc
      refine lv_iconst (v := (1 : Int32)) B.1.1 B.1.2.1 dX5_patch_14 (by decide) ?_
      refine lv_goto (tgt := 19) B.1.1 B.1.2.1 dX5_patch_15 (by decide) ?_
      exact J19 a0 x1 x2 x3 (1 : Int32) _ _ _ ls h (lv_sub hl [0, 1, 2, 3] rfl) hw
