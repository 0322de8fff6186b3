theorem dX5_put_0 : decode cX5_put 0 = .ok (.aload_n 0, 1) := by decide +kernel
theorem dX5_put_1 : decode cX5_put 1 = .ok (.iload_n 1, 1) := by decide +kernel
theorem dX5_put_2 : decode cX5_put 2 = .ok (.iload_n 2, 1) := by decide +kernel
theorem dX5_put_3 : decode cX5_put 3 = .ok (.invokevirtual 104, 3) := by decide +kernel
theorem dX5_put_6 : decode cX5_put 6 = .ok (.ifCond .eq 14, 3) := by decide +kernel
theorem dX5_put_9 : decode cX5_put 9 = .ok (.iload_n 3, 1) := by decide +kernel
theorem dX5_put_10 : decode cX5_put 10 = .ok (.invokestatic 112, 3) := by decide +kernel
theorem dX5_put_13 : decode cX5_put 13 = .ok (.ifCond .eq 7, 3) := by decide +kernel
theorem dX5_put_16 : decode cX5_put 16 = .ok (.iconst 1, 1) := by decide +kernel
theorem dX5_put_17 : decode cX5_put 17 = .ok (.goto 4, 3) := by decide +kernel
theorem dX5_put_20 : decode cX5_put 20 = .ok (.iconst 0, 1) := by decide +kernel
theorem dX5_put_21 : decode cX5_put 21 = .ok (.istore 4, 2) := by decide +kernel
theorem dX5_put_23 : decode cX5_put 23 = .ok (.iload 4, 2) := by decide +kernel
theorem dX5_put_25 : decode cX5_put 25 = .ok (.ifCond .eq 12, 3) := by decide +kernel
theorem dX5_put_28 : decode cX5_put 28 = .ok (.bipush 16, 2) := by decide +kernel
theorem dX5_put_30 : decode cX5_put 30 = .ok (.iload_n 1, 1) := by decide +kernel
theorem dX5_put_31 : decode cX5_put 31 = .ok (.imul, 1) := by decide +kernel
theorem dX5_put_32 : decode cX5_put 32 = .ok (.iload_n 2, 1) := by decide +kernel
theorem dX5_put_33 : decode cX5_put 33 = .ok (.iadd, 1) := by decide +kernel
theorem dX5_put_34 : decode cX5_put 34 = .ok (.goto 4, 3) := by decide +kernel
theorem dX5_put_37 : decode cX5_put 37 = .ok (.iconst 0, 1) := by decide +kernel
theorem dX5_put_38 : decode cX5_put 38 = .ok (.istore 5, 2) := by decide +kernel
theorem dX5_put_40 : decode cX5_put 40 = .ok (.aload_n 0, 1) := by decide +kernel
theorem dX5_put_41 : decode cX5_put 41 = .ok (.iload 4, 2) := by decide +kernel
theorem dX5_put_43 : decode cX5_put 43 = .ok (.ifCond .ne 7, 3) := by decide +kernel
theorem dX5_put_46 : decode cX5_put 46 = .ok (.iconst 1, 1) := by decide +kernel
theorem dX5_put_47 : decode cX5_put 47 = .ok (.goto 42, 3) := by decide +kernel
theorem dX5_put_50 : decode cX5_put 50 = .ok (.aload_n 0, 1) := by decide +kernel
theorem dX5_put_51 : decode cX5_put 51 = .ok (.getfield 31, 3) := by decide +kernel
theorem dX5_put_54 : decode cX5_put 54 = .ok (.iload 5, 2) := by decide +kernel
theorem dX5_put_56 : decode cX5_put 56 = .ok (.iaload, 1) := by decide +kernel
theorem dX5_put_57 : decode cX5_put 57 = .ok (.iconst (-1), 1) := by decide +kernel
theorem dX5_put_58 : decode cX5_put 58 = .ok (.if_icmp .ne 26, 3) := by decide +kernel
theorem dX5_put_61 : decode cX5_put 61 = .ok (.aload_n 0, 1) := by decide +kernel
theorem dX5_put_62 : decode cX5_put 62 = .ok (.iload 5, 2) := by decide +kernel
theorem dX5_put_64 : decode cX5_put 64 = .ok (.invokevirtual 128, 3) := by decide +kernel
theorem dX5_put_67 : decode cX5_put 67 = .ok (.ifCond .ne 17, 3) := by decide +kernel
theorem dX5_put_70 : decode cX5_put 70 = .ok (.aload_n 0, 1) := by decide +kernel
theorem dX5_put_71 : decode cX5_put 71 = .ok (.getfield 34, 3) := by decide +kernel
theorem dX5_put_74 : decode cX5_put 74 = .ok (.iload 5, 2) := by decide +kernel
theorem dX5_put_76 : decode cX5_put 76 = .ok (.iaload, 1) := by decide +kernel
theorem dX5_put_77 : decode cX5_put 77 = .ok (.aload_n 0, 1) := by decide +kernel
theorem dX5_put_78 : decode cX5_put 78 = .ok (.getfield 131, 3) := by decide +kernel
theorem dX5_put_81 : decode cX5_put 81 = .ok (.if_icmp .le 7, 3) := by decide +kernel
theorem dX5_put_84 : decode cX5_put 84 = .ok (.iconst 2, 1) := by decide +kernel
theorem dX5_put_85 : decode cX5_put 85 = .ok (.goto 4, 3) := by decide +kernel
theorem dX5_put_88 : decode cX5_put 88 = .ok (.iconst 0, 1) := by decide +kernel
theorem dX5_put_89 : decode cX5_put 89 = .ok (.invokevirtual 91, 3) := by decide +kernel
theorem dX5_put_92 : decode cX5_put 92 = .ok (.ifCond .eq 5, 3) := by decide +kernel
theorem dX5_put_95 : decode cX5_put 95 = .ok (.iconst 0, 1) := by decide +kernel
theorem dX5_put_96 : decode cX5_put 96 = .ok (.ireturn, 1) := by decide +kernel
theorem dX5_put_97 : decode cX5_put 97 = .ok (.aload_n 0, 1) := by decide +kernel
theorem dX5_put_98 : decode cX5_put 98 = .ok (.getfield 31, 3) := by decide +kernel
theorem dX5_put_101 : decode cX5_put 101 = .ok (.iload 5, 2) := by decide +kernel
theorem dX5_put_103 : decode cX5_put 103 = .ok (.iload_n 3, 1) := by decide +kernel
theorem dX5_put_104 : decode cX5_put 104 = .ok (.iastore, 1) := by decide +kernel
theorem dX5_put_105 : decode cX5_put 105 = .ok (.iconst 0, 1) := by decide +kernel
theorem dX5_put_106 : decode cX5_put 106 = .ok (.istore 6, 2) := by decide +kernel
theorem dX5_put_108 : decode cX5_put 108 = .ok (.iconst 0, 1) := by decide +kernel
theorem dX5_put_109 : decode cX5_put 109 = .ok (.istore 7, 2) := by decide +kernel
theorem dX5_put_111 : decode cX5_put 111 = .ok (.iload 7, 2) := by decide +kernel
theorem dX5_put_113 : decode cX5_put 113 = .ok (.bipush 80, 2) := by decide +kernel
theorem dX5_put_115 : decode cX5_put 115 = .ok (.if_icmp .ge 30, 3) := by decide +kernel
theorem dX5_put_118 : decode cX5_put 118 = .ok (.iload 6, 2) := by decide +kernel
theorem dX5_put_120 : decode cX5_put 120 = .ok (.aload_n 0, 1) := by decide +kernel
theorem dX5_put_121 : decode cX5_put 121 = .ok (.getfield 31, 3) := by decide +kernel
theorem dX5_put_124 : decode cX5_put 124 = .ok (.iload 7, 2) := by decide +kernel
theorem dX5_put_126 : decode cX5_put 126 = .ok (.iaload, 1) := by decide +kernel
theorem dX5_put_127 : decode cX5_put 127 = .ok (.iload_n 3, 1) := by decide +kernel
theorem dX5_put_128 : decode cX5_put 128 = .ok (.if_icmp .ne 7, 3) := by decide +kernel
theorem dX5_put_131 : decode cX5_put 131 = .ok (.iconst 1, 1) := by decide +kernel
theorem dX5_put_132 : decode cX5_put 132 = .ok (.goto 4, 3) := by decide +kernel
theorem dX5_put_135 : decode cX5_put 135 = .ok (.iconst 0, 1) := by decide +kernel
theorem dX5_put_136 : decode cX5_put 136 = .ok (.iadd, 1) := by decide +kernel
theorem dX5_put_137 : decode cX5_put 137 = .ok (.istore 6, 2) := by decide +kernel
theorem dX5_put_139 : decode cX5_put 139 = .ok (.iinc 7 1, 3) := by decide +kernel
theorem dX5_put_142 : decode cX5_put 142 = .ok (.goto (-31), 3) := by decide +kernel
theorem dX5_put_145 : decode cX5_put 145 = .ok (.iload 6, 2) := by decide +kernel
theorem dX5_put_147 : decode cX5_put 147 = .ok (.ireturn, 1) := by decide +kernel
theorem dX5_pass_0 : decode cX5_pass 0 = .ok (.aload_n 0, 1) := by decide +kernel
theorem dX5_pass_1 : decode cX5_pass 1 = .ok (.iload_n 1, 1) := by decide +kernel
theorem dX5_pass_2 : decode cX5_pass 2 = .ok (.iconst 1, 1) := by decide +kernel
theorem dX5_pass_3 : decode cX5_pass 3 = .ok (.sipush 200, 3) := by decide +kernel
theorem dX5_pass_6 : decode cX5_pass 6 = .ok (.invokestatic 69, 3) := by decide +kernel
theorem dX5_pass_9 : decode cX5_pass 9 = .ok (.ifCond .eq 7, 3) := by decide +kernel
theorem dX5_pass_12 : decode cX5_pass 12 = .ok (.iconst 0, 1) := by decide +kernel
theorem dX5_pass_13 : decode cX5_pass 13 = .ok (.goto 4, 3) := by decide +kernel
theorem dX5_pass_16 : decode cX5_pass 16 = .ok (.iconst 1, 1) := by decide +kernel
theorem dX5_pass_17 : decode cX5_pass 17 = .ok (.invokevirtual 91, 3) := by decide +kernel
theorem dX5_pass_20 : decode cX5_pass 20 = .ok (.ifCond .eq 5, 3) := by decide +kernel
theorem dX5_pass_23 : decode cX5_pass 23 = .ok (.iconst 0, 1) := by decide +kernel
theorem dX5_pass_24 : decode cX5_pass 24 = .ok (.ireturn, 1) := by decide +kernel
theorem dX5_pass_25 : decode cX5_pass 25 = .ok (.iconst 0, 1) := by decide +kernel
theorem dX5_pass_26 : decode cX5_pass 26 = .ok (.istore_n 2, 1) := by decide +kernel
theorem dX5_pass_27 : decode cX5_pass 27 = .ok (.iconst 0, 1) := by decide +kernel
theorem dX5_pass_28 : decode cX5_pass 28 = .ok (.istore_n 3, 1) := by decide +kernel
theorem dX5_pass_29 : decode cX5_pass 29 = .ok (.iload_n 3, 1) := by decide +kernel
theorem dX5_pass_30 : decode cX5_pass 30 = .ok (.iload_n 1, 1) := by decide +kernel
theorem dX5_pass_31 : decode cX5_pass 31 = .ok (.if_icmp .ge 16, 3) := by decide +kernel
theorem dX5_pass_34 : decode cX5_pass 34 = .ok (.iload_n 2, 1) := by decide +kernel
theorem dX5_pass_35 : decode cX5_pass 35 = .ok (.aload_n 0, 1) := by decide +kernel
theorem dX5_pass_36 : decode cX5_pass 36 = .ok (.invokevirtual 144, 3) := by decide +kernel
theorem dX5_pass_39 : decode cX5_pass 39 = .ok (.iadd, 1) := by decide +kernel
theorem dX5_pass_40 : decode cX5_pass 40 = .ok (.istore_n 2, 1) := by decide +kernel
theorem dX5_pass_41 : decode cX5_pass 41 = .ok (.iinc 3 1, 3) := by decide +kernel
theorem dX5_pass_44 : decode cX5_pass 44 = .ok (.goto (-15), 3) := by decide +kernel
theorem dX5_pass_47 : decode cX5_pass 47 = .ok (.iload_n 2, 1) := by decide +kernel
theorem dX5_pass_48 : decode cX5_pass 48 = .ok (.ireturn, 1) := by decide +kernel
theorem dX5_prints_0 : decode cX5_prints 0 = .ok (.aload_n 0, 1) := by decide +kernel
theorem dX5_prints_1 : decode cX5_prints 1 = .ok (.iload_n 1, 1) := by decide +kernel
theorem dX5_prints_2 : decode cX5_prints 2 = .ok (.invokestatic 112, 3) := by decide +kernel
theorem dX5_prints_5 : decode cX5_prints 5 = .ok (.ifCond .eq 7, 3) := by decide +kernel
theorem dX5_prints_8 : decode cX5_prints 8 = .ok (.iconst 0, 1) := by decide +kernel
theorem dX5_prints_9 : decode cX5_prints 9 = .ok (.goto 4, 3) := by decide +kernel
theorem dX5_prints_12 : decode cX5_prints 12 = .ok (.iconst 1, 1) := by decide +kernel
theorem dX5_prints_13 : decode cX5_prints 13 = .ok (.invokevirtual 91, 3) := by decide +kernel
theorem dX5_prints_16 : decode cX5_prints 16 = .ok (.ifCond .eq 5, 3) := by decide +kernel
theorem dX5_prints_19 : decode cX5_prints 19 = .ok (.iconst 0, 1) := by decide +kernel
theorem dX5_prints_20 : decode cX5_prints 20 = .ok (.ireturn, 1) := by decide +kernel
theorem dX5_prints_21 : decode cX5_prints 21 = .ok (.aload_n 0, 1) := by decide +kernel
theorem dX5_prints_22 : decode cX5_prints 22 = .ok (.getfield 53, 3) := by decide +kernel
theorem dX5_prints_25 : decode cX5_prints 25 = .ok (.iload_n 1, 1) := by decide +kernel
theorem dX5_prints_26 : decode cX5_prints 26 = .ok (.iaload, 1) := by decide +kernel
theorem dX5_prints_27 : decode cX5_prints 27 = .ok (.istore_n 2, 1) := by decide +kernel
theorem dX5_prints_28 : decode cX5_prints 28 = .ok (.iload_n 2, 1) := by decide +kernel
theorem dX5_prints_29 : decode cX5_prints 29 = .ok (.iconst (-1), 1) := by decide +kernel
theorem dX5_prints_30 : decode cX5_prints 30 = .ok (.if_icmp .ne 7, 3) := by decide +kernel
theorem dX5_prints_33 : decode cX5_prints 33 = .ok (.iconst 0, 1) := by decide +kernel
theorem dX5_prints_34 : decode cX5_prints 34 = .ok (.goto 21, 3) := by decide +kernel
theorem dX5_prints_37 : decode cX5_prints 37 = .ok (.sipush 1000, 3) := by decide +kernel
theorem dX5_prints_40 : decode cX5_prints 40 = .ok (.iload_n 2, 1) := by decide +kernel
theorem dX5_prints_41 : decode cX5_prints 41 = .ok (.bipush 16, 2) := by decide +kernel
theorem dX5_prints_43 : decode cX5_prints 43 = .ok (.idiv, 1) := by decide +kernel
theorem dX5_prints_44 : decode cX5_prints 44 = .ok (.imul, 1) := by decide +kernel
theorem dX5_prints_45 : decode cX5_prints 45 = .ok (.bipush 10, 2) := by decide +kernel
theorem dX5_prints_47 : decode cX5_prints 47 = .ok (.iload_n 2, 1) := by decide +kernel
theorem dX5_prints_48 : decode cX5_prints 48 = .ok (.bipush 16, 2) := by decide +kernel
theorem dX5_prints_50 : decode cX5_prints 50 = .ok (.irem, 1) := by decide +kernel
theorem dX5_prints_51 : decode cX5_prints 51 = .ok (.imul, 1) := by decide +kernel
theorem dX5_prints_52 : decode cX5_prints 52 = .ok (.iadd, 1) := by decide +kernel
theorem dX5_prints_53 : decode cX5_prints 53 = .ok (.iconst 1, 1) := by decide +kernel
theorem dX5_prints_54 : decode cX5_prints 54 = .ok (.iadd, 1) := by decide +kernel
theorem dX5_prints_55 : decode cX5_prints 55 = .ok (.ireturn, 1) := by decide +kernel
theorem dX5_dry_0 : decode cX5_dry 0 = .ok (.aload_n 0, 1) := by decide +kernel
theorem dX5_dry_1 : decode cX5_dry 1 = .ok (.aload_n 0, 1) := by decide +kernel
theorem dX5_dry_2 : decode cX5_dry 2 = .ok (.iload_n 1, 1) := by decide +kernel
theorem dX5_dry_3 : decode cX5_dry 3 = .ok (.iload_n 2, 1) := by decide +kernel
theorem dX5_dry_4 : decode cX5_dry 4 = .ok (.invokevirtual 104, 3) := by decide +kernel
theorem dX5_dry_7 : decode cX5_dry 7 = .ok (.ifCond .eq 7, 3) := by decide +kernel
theorem dX5_dry_10 : decode cX5_dry 10 = .ok (.iconst 0, 1) := by decide +kernel
theorem dX5_dry_11 : decode cX5_dry 11 = .ok (.goto 4, 3) := by decide +kernel
theorem dX5_dry_14 : decode cX5_dry 14 = .ok (.iconst 1, 1) := by decide +kernel
theorem dX5_dry_15 : decode cX5_dry 15 = .ok (.invokevirtual 91, 3) := by decide +kernel
theorem dX5_dry_18 : decode cX5_dry 18 = .ok (.ifCond .eq 7, 3) := by decide +kernel
theorem dX5_dry_21 : decode cX5_dry 21 = .ok (.iconst 0, 1) := by decide +kernel
theorem dX5_dry_22 : decode cX5_dry 22 = .ok (.goto 14, 3) := by decide +kernel
theorem dX5_dry_25 : decode cX5_dry 25 = .ok (.aload_n 0, 1) := by decide +kernel
theorem dX5_dry_26 : decode cX5_dry 26 = .ok (.getfield 34, 3) := by decide +kernel
theorem dX5_dry_29 : decode cX5_dry 29 = .ok (.bipush 16, 2) := by decide +kernel
theorem dX5_dry_31 : decode cX5_dry 31 = .ok (.iload_n 1, 1) := by decide +kernel
theorem dX5_dry_32 : decode cX5_dry 32 = .ok (.imul, 1) := by decide +kernel
theorem dX5_dry_33 : decode cX5_dry 33 = .ok (.iload_n 2, 1) := by decide +kernel
theorem dX5_dry_34 : decode cX5_dry 34 = .ok (.iadd, 1) := by decide +kernel
theorem dX5_dry_35 : decode cX5_dry 35 = .ok (.iaload, 1) := by decide +kernel
theorem dX5_dry_36 : decode cX5_dry 36 = .ok (.ireturn, 1) := by decide +kernel
theorem dX5_ink_0 : decode cX5_ink 0 = .ok (.aload_n 0, 1) := by decide +kernel
theorem dX5_ink_1 : decode cX5_ink 1 = .ok (.aload_n 0, 1) := by decide +kernel
theorem dX5_ink_2 : decode cX5_ink 2 = .ok (.iload_n 1, 1) := by decide +kernel
theorem dX5_ink_3 : decode cX5_ink 3 = .ok (.iload_n 2, 1) := by decide +kernel
theorem dX5_ink_4 : decode cX5_ink 4 = .ok (.iload_n 3, 1) := by decide +kernel
theorem dX5_ink_5 : decode cX5_ink 5 = .ok (.invokevirtual 94, 3) := by decide +kernel
theorem dX5_ink_8 : decode cX5_ink 8 = .ok (.ifCond .eq 7, 3) := by decide +kernel
theorem dX5_ink_11 : decode cX5_ink 11 = .ok (.iconst 0, 1) := by decide +kernel
theorem dX5_ink_12 : decode cX5_ink 12 = .ok (.goto 4, 3) := by decide +kernel
theorem dX5_ink_15 : decode cX5_ink 15 = .ok (.iconst 1, 1) := by decide +kernel
theorem dX5_ink_16 : decode cX5_ink 16 = .ok (.invokevirtual 91, 3) := by decide +kernel
theorem dX5_ink_19 : decode cX5_ink 19 = .ok (.ifCond .eq 7, 3) := by decide +kernel
theorem dX5_ink_22 : decode cX5_ink 22 = .ok (.iconst 0, 1) := by decide +kernel
theorem dX5_ink_23 : decode cX5_ink 23 = .ok (.goto 10, 3) := by decide +kernel
theorem dX5_ink_26 : decode cX5_ink 26 = .ok (.aload_n 0, 1) := by decide +kernel
theorem dX5_ink_27 : decode cX5_ink 27 = .ok (.iload_n 1, 1) := by decide +kernel
theorem dX5_ink_28 : decode cX5_ink 28 = .ok (.iload_n 2, 1) := by decide +kernel
theorem dX5_ink_29 : decode cX5_ink 29 = .ok (.iload_n 3, 1) := by decide +kernel
theorem dX5_ink_30 : decode cX5_ink 30 = .ok (.invokevirtual 151, 3) := by decide +kernel
theorem dX5_ink_33 : decode cX5_ink 33 = .ok (.ireturn, 1) := by decide +kernel
theorem dX5_spilt_0 : decode cX5_spilt 0 = .ok (.aload_n 0, 1) := by decide +kernel
theorem dX5_spilt_1 : decode cX5_spilt 1 = .ok (.aload_n 0, 1) := by decide +kernel
theorem dX5_spilt_2 : decode cX5_spilt 2 = .ok (.iload_n 1, 1) := by decide +kernel
theorem dX5_spilt_3 : decode cX5_spilt 3 = .ok (.invokevirtual 73, 3) := by decide +kernel
theorem dX5_spilt_6 : decode cX5_spilt 6 = .ok (.ifCond .eq 7, 3) := by decide +kernel
theorem dX5_spilt_9 : decode cX5_spilt 9 = .ok (.iconst 0, 1) := by decide +kernel
theorem dX5_spilt_10 : decode cX5_spilt 10 = .ok (.goto 4, 3) := by decide +kernel
theorem dX5_spilt_13 : decode cX5_spilt 13 = .ok (.iconst 1, 1) := by decide +kernel
theorem dX5_spilt_14 : decode cX5_spilt 14 = .ok (.invokevirtual 91, 3) := by decide +kernel
theorem dX5_spilt_17 : decode cX5_spilt 17 = .ok (.ifCond .eq 5, 3) := by decide +kernel
theorem dX5_spilt_20 : decode cX5_spilt 20 = .ok (.iconst 0, 1) := by decide +kernel
theorem dX5_spilt_21 : decode cX5_spilt 21 = .ok (.ireturn, 1) := by decide +kernel
theorem dX5_spilt_22 : decode cX5_spilt 22 = .ok (.iconst 0, 1) := by decide +kernel
theorem dX5_spilt_23 : decode cX5_spilt 23 = .ok (.istore_n 2, 1) := by decide +kernel
theorem dX5_spilt_24 : decode cX5_spilt 24 = .ok (.iconst 0, 1) := by decide +kernel
theorem dX5_spilt_25 : decode cX5_spilt 25 = .ok (.istore_n 3, 1) := by decide +kernel
theorem dX5_spilt_26 : decode cX5_spilt 26 = .ok (.iload_n 3, 1) := by decide +kernel
theorem dX5_spilt_27 : decode cX5_spilt 27 = .ok (.bipush 8, 2) := by decide +kernel
theorem dX5_spilt_29 : decode cX5_spilt 29 = .ok (.aload_n 0, 1) := by decide +kernel
theorem dX5_spilt_30 : decode cX5_spilt 30 = .ok (.getfield 7, 3) := by decide +kernel
theorem dX5_spilt_33 : decode cX5_spilt 33 = .ok (.iload_n 1, 1) := by decide +kernel
theorem dX5_spilt_34 : decode cX5_spilt 34 = .ok (.iaload, 1) := by decide +kernel
theorem dX5_spilt_35 : decode cX5_spilt 35 = .ok (.imul, 1) := by decide +kernel
theorem dX5_spilt_36 : decode cX5_spilt 36 = .ok (.if_icmp .ge 39, 3) := by decide +kernel
theorem dX5_spilt_39 : decode cX5_spilt 39 = .ok (.iload_n 2, 1) := by decide +kernel
theorem dX5_spilt_40 : decode cX5_spilt 40 = .ok (.aload_n 0, 1) := by decide +kernel
theorem dX5_spilt_41 : decode cX5_spilt 41 = .ok (.iload_n 1, 1) := by decide +kernel
theorem dX5_spilt_42 : decode cX5_spilt 42 = .ok (.iload_n 3, 1) := by decide +kernel
theorem dX5_spilt_43 : decode cX5_spilt 43 = .ok (.bipush 8, 2) := by decide +kernel
theorem dX5_spilt_45 : decode cX5_spilt 45 = .ok (.irem, 1) := by decide +kernel
theorem dX5_spilt_46 : decode cX5_spilt 46 = .ok (.iload_n 3, 1) := by decide +kernel
theorem dX5_spilt_47 : decode cX5_spilt 47 = .ok (.bipush 8, 2) := by decide +kernel
theorem dX5_spilt_49 : decode cX5_spilt 49 = .ok (.idiv, 1) := by decide +kernel
theorem dX5_spilt_50 : decode cX5_spilt 50 = .ok (.invokevirtual 148, 3) := by decide +kernel
theorem dX5_spilt_53 : decode cX5_spilt 53 = .ok (.aload_n 0, 1) := by decide +kernel
theorem dX5_spilt_54 : decode cX5_spilt 54 = .ok (.getfield 19, 3) := by decide +kernel
theorem dX5_spilt_57 : decode cX5_spilt 57 = .ok (.iload_n 1, 1) := by decide +kernel
theorem dX5_spilt_58 : decode cX5_spilt 58 = .ok (.iaload, 1) := by decide +kernel
theorem dX5_spilt_59 : decode cX5_spilt 59 = .ok (.if_icmp .le 7, 3) := by decide +kernel
theorem dX5_spilt_62 : decode cX5_spilt 62 = .ok (.iconst 1, 1) := by decide +kernel
theorem dX5_spilt_63 : decode cX5_spilt 63 = .ok (.goto 4, 3) := by decide +kernel
theorem dX5_spilt_66 : decode cX5_spilt 66 = .ok (.iconst 0, 1) := by decide +kernel
theorem dX5_spilt_67 : decode cX5_spilt 67 = .ok (.iadd, 1) := by decide +kernel
theorem dX5_spilt_68 : decode cX5_spilt 68 = .ok (.istore_n 2, 1) := by decide +kernel
theorem dX5_spilt_69 : decode cX5_spilt 69 = .ok (.iinc 3 1, 3) := by decide +kernel
theorem dX5_spilt_72 : decode cX5_spilt 72 = .ok (.goto (-46), 3) := by decide +kernel
theorem dX5_spilt_75 : decode cX5_spilt 75 = .ok (.iload_n 2, 1) := by decide +kernel
theorem dX5_spilt_76 : decode cX5_spilt 76 = .ok (.ireturn, 1) := by decide +kernel
theorem dX5_used_0 : decode cX5_used 0 = .ok (.iload_n 1, 1) := by decide +kernel
theorem dX5_used_1 : decode cX5_used 1 = .ok (.ifCond .eq 11, 3) := by decide +kernel
theorem dX5_used_4 : decode cX5_used 4 = .ok (.aload_n 0, 1) := by decide +kernel
theorem dX5_used_5 : decode cX5_used 5 = .ok (.iload_n 2, 1) := by decide +kernel
theorem dX5_used_6 : decode cX5_used 6 = .ok (.invokevirtual 73, 3) := by decide +kernel
theorem dX5_used_9 : decode cX5_used 9 = .ok (.goto 7, 3) := by decide +kernel
theorem dX5_used_12 : decode cX5_used 12 = .ok (.iload_n 2, 1) := by decide +kernel
theorem dX5_used_13 : decode cX5_used 13 = .ok (.invokestatic 112, 3) := by decide +kernel
theorem dX5_used_16 : decode cX5_used 16 = .ok (.istore_n 3, 1) := by decide +kernel
theorem dX5_used_17 : decode cX5_used 17 = .ok (.aload_n 0, 1) := by decide +kernel
theorem dX5_used_18 : decode cX5_used 18 = .ok (.iload_n 3, 1) := by decide +kernel
theorem dX5_used_19 : decode cX5_used 19 = .ok (.ifCond .eq 7, 3) := by decide +kernel
theorem dX5_used_22 : decode cX5_used 22 = .ok (.iconst 0, 1) := by decide +kernel
theorem dX5_used_23 : decode cX5_used 23 = .ok (.goto 4, 3) := by decide +kernel
theorem dX5_used_26 : decode cX5_used 26 = .ok (.iconst 1, 1) := by decide +kernel
theorem dX5_used_27 : decode cX5_used 27 = .ok (.invokevirtual 91, 3) := by decide +kernel
theorem dX5_used_30 : decode cX5_used 30 = .ok (.ifCond .eq 7, 3) := by decide +kernel
theorem dX5_used_33 : decode cX5_used 33 = .ok (.iconst 0, 1) := by decide +kernel
theorem dX5_used_34 : decode cX5_used 34 = .ok (.goto 22, 3) := by decide +kernel
theorem dX5_used_37 : decode cX5_used 37 = .ok (.iload_n 1, 1) := by decide +kernel
theorem dX5_used_38 : decode cX5_used 38 = .ok (.ifCond .eq 12, 3) := by decide +kernel
theorem dX5_used_41 : decode cX5_used 41 = .ok (.aload_n 0, 1) := by decide +kernel
theorem dX5_used_42 : decode cX5_used 42 = .ok (.getfield 37, 3) := by decide +kernel
theorem dX5_used_45 : decode cX5_used 45 = .ok (.iload_n 2, 1) := by decide +kernel
theorem dX5_used_46 : decode cX5_used 46 = .ok (.iaload, 1) := by decide +kernel
theorem dX5_used_47 : decode cX5_used 47 = .ok (.goto 9, 3) := by decide +kernel
theorem dX5_used_50 : decode cX5_used 50 = .ok (.aload_n 0, 1) := by decide +kernel
theorem dX5_used_51 : decode cX5_used 51 = .ok (.getfield 50, 3) := by decide +kernel
theorem dX5_used_54 : decode cX5_used 54 = .ok (.iload_n 2, 1) := by decide +kernel
theorem dX5_used_55 : decode cX5_used 55 = .ok (.iaload, 1) := by decide +kernel
theorem dX5_used_56 : decode cX5_used 56 = .ok (.ireturn, 1) := by decide +kernel
theorem dX5_seam_0 : decode cX5_seam 0 = .ok (.aload_n 0, 1) := by decide +kernel
theorem dX5_seam_1 : decode cX5_seam 1 = .ok (.iload_n 1, 1) := by decide +kernel
theorem dX5_seam_2 : decode cX5_seam 2 = .ok (.invokevirtual 73, 3) := by decide +kernel
theorem dX5_seam_5 : decode cX5_seam 5 = .ok (.ifCond .eq 22, 3) := by decide +kernel
theorem dX5_seam_8 : decode cX5_seam 8 = .ok (.iload_n 2, 1) := by decide +kernel
theorem dX5_seam_9 : decode cX5_seam 9 = .ok (.iconst 0, 1) := by decide +kernel
theorem dX5_seam_10 : decode cX5_seam 10 = .ok (.aload_n 0, 1) := by decide +kernel
theorem dX5_seam_11 : decode cX5_seam 11 = .ok (.iload_n 1, 1) := by decide +kernel
theorem dX5_seam_12 : decode cX5_seam 12 = .ok (.invokevirtual 77, 3) := by decide +kernel
theorem dX5_seam_15 : decode cX5_seam 15 = .ok (.iconst 2, 1) := by decide +kernel
theorem dX5_seam_16 : decode cX5_seam 16 = .ok (.isub, 1) := by decide +kernel
theorem dX5_seam_17 : decode cX5_seam 17 = .ok (.invokestatic 69, 3) := by decide +kernel
theorem dX5_seam_20 : decode cX5_seam 20 = .ok (.ifCond .eq 7, 3) := by decide +kernel
theorem dX5_seam_23 : decode cX5_seam 23 = .ok (.iconst 1, 1) := by decide +kernel
theorem dX5_seam_24 : decode cX5_seam 24 = .ok (.goto 4, 3) := by decide +kernel
theorem dX5_seam_27 : decode cX5_seam 27 = .ok (.iconst 0, 1) := by decide +kernel
theorem dX5_seam_28 : decode cX5_seam 28 = .ok (.istore_n 3, 1) := by decide +kernel
theorem dX5_seam_29 : decode cX5_seam 29 = .ok (.iload_n 3, 1) := by decide +kernel
theorem dX5_seam_30 : decode cX5_seam 30 = .ok (.ifCond .eq 12, 3) := by decide +kernel
theorem dX5_seam_33 : decode cX5_seam 33 = .ok (.bipush 16, 2) := by decide +kernel
theorem dX5_seam_35 : decode cX5_seam 35 = .ok (.iload_n 1, 1) := by decide +kernel
theorem dX5_seam_36 : decode cX5_seam 36 = .ok (.imul, 1) := by decide +kernel
theorem dX5_seam_37 : decode cX5_seam 37 = .ok (.iload_n 2, 1) := by decide +kernel
theorem dX5_seam_38 : decode cX5_seam 38 = .ok (.iadd, 1) := by decide +kernel
theorem dX5_seam_39 : decode cX5_seam 39 = .ok (.goto 4, 3) := by decide +kernel
theorem dX5_seam_42 : decode cX5_seam 42 = .ok (.iconst 0, 1) := by decide +kernel
theorem dX5_seam_43 : decode cX5_seam 43 = .ok (.istore 4, 2) := by decide +kernel
theorem dX5_seam_45 : decode cX5_seam 45 = .ok (.aload_n 0, 1) := by decide +kernel
theorem dX5_seam_46 : decode cX5_seam 46 = .ok (.iload_n 3, 1) := by decide +kernel
theorem dX5_seam_47 : decode cX5_seam 47 = .ok (.ifCond .ne 7, 3) := by decide +kernel
theorem dX5_seam_50 : decode cX5_seam 50 = .ok (.iconst 1, 1) := by decide +kernel
theorem dX5_seam_51 : decode cX5_seam 51 = .ok (.goto 32, 3) := by decide +kernel
theorem dX5_seam_54 : decode cX5_seam 54 = .ok (.aload_n 0, 1) := by decide +kernel
theorem dX5_seam_55 : decode cX5_seam 55 = .ok (.getfield 34, 3) := by decide +kernel
theorem dX5_seam_58 : decode cX5_seam 58 = .ok (.iload 4, 2) := by decide +kernel
theorem dX5_seam_60 : decode cX5_seam 60 = .ok (.iaload, 1) := by decide +kernel
theorem dX5_seam_61 : decode cX5_seam 61 = .ok (.iconst (-1), 1) := by decide +kernel
theorem dX5_seam_62 : decode cX5_seam 62 = .ok (.if_icmp .eq 16, 3) := by decide +kernel
theorem dX5_seam_65 : decode cX5_seam 65 = .ok (.aload_n 0, 1) := by decide +kernel
theorem dX5_seam_66 : decode cX5_seam 66 = .ok (.getfield 34, 3) := by decide +kernel
theorem dX5_seam_69 : decode cX5_seam 69 = .ok (.iload 4, 2) := by decide +kernel
theorem dX5_seam_71 : decode cX5_seam 71 = .ok (.iconst 1, 1) := by decide +kernel
theorem dX5_seam_72 : decode cX5_seam 72 = .ok (.iadd, 1) := by decide +kernel
theorem dX5_seam_73 : decode cX5_seam 73 = .ok (.iaload, 1) := by decide +kernel
theorem dX5_seam_74 : decode cX5_seam 74 = .ok (.iconst (-1), 1) := by decide +kernel
theorem dX5_seam_75 : decode cX5_seam 75 = .ok (.if_icmp .ne 7, 3) := by decide +kernel
theorem dX5_seam_78 : decode cX5_seam 78 = .ok (.iconst 2, 1) := by decide +kernel
theorem dX5_seam_79 : decode cX5_seam 79 = .ok (.goto 4, 3) := by decide +kernel
theorem dX5_seam_82 : decode cX5_seam 82 = .ok (.iconst 0, 1) := by decide +kernel
theorem dX5_seam_83 : decode cX5_seam 83 = .ok (.invokevirtual 91, 3) := by decide +kernel
theorem dX5_seam_86 : decode cX5_seam 86 = .ok (.ifCond .eq 5, 3) := by decide +kernel
theorem dX5_seam_89 : decode cX5_seam 89 = .ok (.iconst 0, 1) := by decide +kernel
theorem dX5_seam_90 : decode cX5_seam 90 = .ok (.ireturn, 1) := by decide +kernel
theorem dX5_seam_91 : decode cX5_seam 91 = .ok (.aload_n 0, 1) := by decide +kernel
theorem dX5_seam_92 : decode cX5_seam 92 = .ok (.iload_n 1, 1) := by decide +kernel
theorem dX5_seam_93 : decode cX5_seam 93 = .ok (.iload_n 2, 1) := by decide +kernel
theorem dX5_seam_94 : decode cX5_seam 94 = .ok (.iconst 1, 1) := by decide +kernel
theorem dX5_seam_95 : decode cX5_seam 95 = .ok (.iadd, 1) := by decide +kernel
theorem dX5_seam_96 : decode cX5_seam 96 = .ok (.invokevirtual 84, 3) := by decide +kernel
theorem dX5_seam_99 : decode cX5_seam 99 = .ok (.istore 5, 2) := by decide +kernel
theorem dX5_seam_101 : decode cX5_seam 101 = .ok (.aload_n 0, 1) := by decide +kernel
theorem dX5_seam_102 : decode cX5_seam 102 = .ok (.iload_n 1, 1) := by decide +kernel
theorem dX5_seam_103 : decode cX5_seam 103 = .ok (.iload_n 2, 1) := by decide +kernel
theorem dX5_seam_104 : decode cX5_seam 104 = .ok (.invokevirtual 88, 3) := by decide +kernel
theorem dX5_seam_107 : decode cX5_seam 107 = .ok (.istore 6, 2) := by decide +kernel
theorem dX5_seam_109 : decode cX5_seam 109 = .ok (.aload_n 0, 1) := by decide +kernel
theorem dX5_seam_110 : decode cX5_seam 110 = .ok (.getfield 16, 3) := by decide +kernel
theorem dX5_seam_113 : decode cX5_seam 113 = .ok (.iload_n 1, 1) := by decide +kernel
theorem dX5_seam_114 : decode cX5_seam 114 = .ok (.iaload, 1) := by decide +kernel
theorem dX5_seam_115 : decode cX5_seam 115 = .ok (.ifCond .ne 10, 3) := by decide +kernel
theorem dX5_seam_118 : decode cX5_seam 118 = .ok (.iload 5, 2) := by decide +kernel
theorem dX5_seam_120 : decode cX5_seam 120 = .ok (.iconst 1, 1) := by decide +kernel
theorem dX5_seam_121 : decode cX5_seam 121 = .ok (.isub, 1) := by decide +kernel
theorem dX5_seam_122 : decode cX5_seam 122 = .ok (.goto 5, 3) := by decide +kernel
theorem dX5_seam_125 : decode cX5_seam 125 = .ok (.iload 5, 2) := by decide +kernel
theorem dX5_seam_127 : decode cX5_seam 127 = .ok (.istore 5, 2) := by decide +kernel
theorem dX5_seam_129 : decode cX5_seam 129 = .ok (.aload_n 0, 1) := by decide +kernel
theorem dX5_seam_130 : decode cX5_seam 130 = .ok (.getfield 16, 3) := by decide +kernel
theorem dX5_seam_133 : decode cX5_seam 133 = .ok (.iload_n 1, 1) := by decide +kernel
theorem dX5_seam_134 : decode cX5_seam 134 = .ok (.iaload, 1) := by decide +kernel
theorem dX5_seam_135 : decode cX5_seam 135 = .ok (.ifCond .ne 10, 3) := by decide +kernel
theorem dX5_seam_138 : decode cX5_seam 138 = .ok (.iload 6, 2) := by decide +kernel
theorem dX5_seam_140 : decode cX5_seam 140 = .ok (.iconst 1, 1) := by decide +kernel
theorem dX5_seam_141 : decode cX5_seam 141 = .ok (.iadd, 1) := by decide +kernel
theorem dX5_seam_142 : decode cX5_seam 142 = .ok (.goto 5, 3) := by decide +kernel
theorem dX5_seam_145 : decode cX5_seam 145 = .ok (.iload 6, 2) := by decide +kernel
theorem dX5_seam_147 : decode cX5_seam 147 = .ok (.istore 6, 2) := by decide +kernel
theorem dX5_seam_149 : decode cX5_seam 149 = .ok (.iconst 0, 1) := by decide +kernel
theorem dX5_seam_150 : decode cX5_seam 150 = .ok (.istore 7, 2) := by decide +kernel
theorem dX5_seam_152 : decode cX5_seam 152 = .ok (.iload 5, 2) := by decide +kernel
theorem dX5_seam_154 : decode cX5_seam 154 = .ok (.istore 8, 2) := by decide +kernel
theorem dX5_seam_156 : decode cX5_seam 156 = .ok (.iload 8, 2) := by decide +kernel
theorem dX5_seam_158 : decode cX5_seam 158 = .ok (.iload 6, 2) := by decide +kernel
theorem dX5_seam_160 : decode cX5_seam 160 = .ok (.if_icmp .ge 52, 3) := by decide +kernel
theorem dX5_seam_163 : decode cX5_seam 163 = .ok (.iconst 0, 1) := by decide +kernel
theorem dX5_seam_164 : decode cX5_seam 164 = .ok (.istore 9, 2) := by decide +kernel
theorem dX5_seam_166 : decode cX5_seam 166 = .ok (.iload 9, 2) := by decide +kernel
theorem dX5_seam_168 : decode cX5_seam 168 = .ok (.bipush 8, 2) := by decide +kernel
theorem dX5_seam_170 : decode cX5_seam 170 = .ok (.if_icmp .ge 36, 3) := by decide +kernel
theorem dX5_seam_173 : decode cX5_seam 173 = .ok (.aload_n 0, 1) := by decide +kernel
theorem dX5_seam_174 : decode cX5_seam 174 = .ok (.iload_n 1, 1) := by decide +kernel
theorem dX5_seam_175 : decode cX5_seam 175 = .ok (.iload 9, 2) := by decide +kernel
theorem dX5_seam_177 : decode cX5_seam 177 = .ok (.iload 8, 2) := by decide +kernel
theorem dX5_seam_179 : decode cX5_seam 179 = .ok (.invokevirtual 154, 3) := by decide +kernel
theorem dX5_seam_182 : decode cX5_seam 182 = .ok (.istore 10, 2) := by decide +kernel
theorem dX5_seam_184 : decode cX5_seam 184 = .ok (.iload 10, 2) := by decide +kernel
theorem dX5_seam_186 : decode cX5_seam 186 = .ok (.iload 7, 2) := by decide +kernel
theorem dX5_seam_188 : decode cX5_seam 188 = .ok (.if_icmp .le 8, 3) := by decide +kernel
theorem dX5_seam_191 : decode cX5_seam 191 = .ok (.iload 10, 2) := by decide +kernel
theorem dX5_seam_193 : decode cX5_seam 193 = .ok (.goto 5, 3) := by decide +kernel
theorem dX5_seam_196 : decode cX5_seam 196 = .ok (.iload 7, 2) := by decide +kernel
theorem dX5_seam_198 : decode cX5_seam 198 = .ok (.istore 7, 2) := by decide +kernel
theorem dX5_seam_200 : decode cX5_seam 200 = .ok (.iinc 9 1, 3) := by decide +kernel
theorem dX5_seam_203 : decode cX5_seam 203 = .ok (.goto (-37), 3) := by decide +kernel
theorem dX5_seam_206 : decode cX5_seam 206 = .ok (.iinc 8 1, 3) := by decide +kernel
theorem dX5_seam_209 : decode cX5_seam 209 = .ok (.goto (-53), 3) := by decide +kernel
theorem dX5_seam_212 : decode cX5_seam 212 = .ok (.iload 7, 2) := by decide +kernel
theorem dX5_seam_214 : decode cX5_seam 214 = .ok (.ireturn, 1) := by decide +kernel
theorem dX5_meanError_0 : decode cX5_meanError 0 = .ok (.aload_n 0, 1) := by decide +kernel
theorem dX5_meanError_1 : decode cX5_meanError 1 = .ok (.aload_n 0, 1) := by decide +kernel
theorem dX5_meanError_2 : decode cX5_meanError 2 = .ok (.iload_n 1, 1) := by decide +kernel
theorem dX5_meanError_3 : decode cX5_meanError 3 = .ok (.invokevirtual 73, 3) := by decide +kernel
theorem dX5_meanError_6 : decode cX5_meanError 6 = .ok (.ifCond .eq 7, 3) := by decide +kernel
theorem dX5_meanError_9 : decode cX5_meanError 9 = .ok (.iconst 0, 1) := by decide +kernel
theorem dX5_meanError_10 : decode cX5_meanError 10 = .ok (.goto 4, 3) := by decide +kernel
theorem dX5_meanError_13 : decode cX5_meanError 13 = .ok (.iconst 1, 1) := by decide +kernel
theorem dX5_meanError_14 : decode cX5_meanError 14 = .ok (.invokevirtual 91, 3) := by decide +kernel
theorem dX5_meanError_17 : decode cX5_meanError 17 = .ok (.ifCond .eq 5, 3) := by decide +kernel
theorem dX5_meanError_20 : decode cX5_meanError 20 = .ok (.fconst 0, 1) := by decide +kernel
theorem dX5_meanError_21 : decode cX5_meanError 21 = .ok (.freturn, 1) := by decide +kernel
theorem dX5_meanError_22 : decode cX5_meanError 22 = .ok (.iconst 0, 1) := by decide +kernel
theorem dX5_meanError_23 : decode cX5_meanError 23 = .ok (.istore_n 2, 1) := by decide +kernel
theorem dX5_meanError_24 : decode cX5_meanError 24 = .ok (.iconst 0, 1) := by decide +kernel
theorem dX5_meanError_25 : decode cX5_meanError 25 = .ok (.istore_n 3, 1) := by decide +kernel
theorem dX5_meanError_26 : decode cX5_meanError 26 = .ok (.iload_n 3, 1) := by decide +kernel
theorem dX5_meanError_27 : decode cX5_meanError 27 = .ok (.bipush 8, 2) := by decide +kernel
theorem dX5_meanError_29 : decode cX5_meanError 29 = .ok (.aload_n 0, 1) := by decide +kernel
theorem dX5_meanError_30 : decode cX5_meanError 30 = .ok (.getfield 7, 3) := by decide +kernel
theorem dX5_meanError_33 : decode cX5_meanError 33 = .ok (.iload_n 1, 1) := by decide +kernel
theorem dX5_meanError_34 : decode cX5_meanError 34 = .ok (.iaload, 1) := by decide +kernel
theorem dX5_meanError_35 : decode cX5_meanError 35 = .ok (.imul, 1) := by decide +kernel
theorem dX5_meanError_36 : decode cX5_meanError 36 = .ok (.if_icmp .ge 25, 3) := by decide +kernel
theorem dX5_meanError_39 : decode cX5_meanError 39 = .ok (.iload_n 2, 1) := by decide +kernel
theorem dX5_meanError_40 : decode cX5_meanError 40 = .ok (.aload_n 0, 1) := by decide +kernel
theorem dX5_meanError_41 : decode cX5_meanError 41 = .ok (.iload_n 1, 1) := by decide +kernel
theorem dX5_meanError_42 : decode cX5_meanError 42 = .ok (.iload_n 3, 1) := by decide +kernel
theorem dX5_meanError_43 : decode cX5_meanError 43 = .ok (.bipush 8, 2) := by decide +kernel
theorem dX5_meanError_45 : decode cX5_meanError 45 = .ok (.irem, 1) := by decide +kernel
theorem dX5_meanError_46 : decode cX5_meanError 46 = .ok (.iload_n 3, 1) := by decide +kernel
theorem dX5_meanError_47 : decode cX5_meanError 47 = .ok (.bipush 8, 2) := by decide +kernel
theorem dX5_meanError_49 : decode cX5_meanError 49 = .ok (.idiv, 1) := by decide +kernel
theorem dX5_meanError_50 : decode cX5_meanError 50 = .ok (.invokevirtual 154, 3) := by decide +kernel
theorem dX5_meanError_53 : decode cX5_meanError 53 = .ok (.iadd, 1) := by decide +kernel
theorem dX5_meanError_54 : decode cX5_meanError 54 = .ok (.istore_n 2, 1) := by decide +kernel
theorem dX5_meanError_55 : decode cX5_meanError 55 = .ok (.iinc 3 1, 3) := by decide +kernel
theorem dX5_meanError_58 : decode cX5_meanError 58 = .ok (.goto (-32), 3) := by decide +kernel
theorem dX5_meanError_61 : decode cX5_meanError 61 = .ok (.iload_n 2, 1) := by decide +kernel
theorem dX5_meanError_62 : decode cX5_meanError 62 = .ok (.i2f, 1) := by decide +kernel
theorem dX5_meanError_63 : decode cX5_meanError 63 = .ok (.bipush 8, 2) := by decide +kernel
theorem dX5_meanError_65 : decode cX5_meanError 65 = .ok (.aload_n 0, 1) := by decide +kernel
theorem dX5_meanError_66 : decode cX5_meanError 66 = .ok (.getfield 7, 3) := by decide +kernel
theorem dX5_meanError_69 : decode cX5_meanError 69 = .ok (.iload_n 1, 1) := by decide +kernel
theorem dX5_meanError_70 : decode cX5_meanError 70 = .ok (.iaload, 1) := by decide +kernel
theorem dX5_meanError_71 : decode cX5_meanError 71 = .ok (.imul, 1) := by decide +kernel
theorem dX5_meanError_72 : decode cX5_meanError 72 = .ok (.i2f, 1) := by decide +kernel
theorem dX5_meanError_73 : decode cX5_meanError 73 = .ok (.fdiv, 1) := by decide +kernel
theorem dX5_meanError_74 : decode cX5_meanError 74 = .ok (.freturn, 1) := by decide +kernel
theorem dX5_init_0 : decode cX5_init 0 = .ok (.aload_n 0, 1) := by decide +kernel
theorem dX5_init_1 : decode cX5_init 1 = .ok (.invokespecial 1, 3) := by decide +kernel
theorem dX5_init_4 : decode cX5_init 4 = .ok (.aload_n 0, 1) := by decide +kernel
theorem dX5_init_5 : decode cX5_init 5 = .ok (.iconst 5, 1) := by decide +kernel
theorem dX5_init_6 : decode cX5_init 6 = .ok (.newarray .int, 2) := by decide +kernel
theorem dX5_init_8 : decode cX5_init 8 = .ok (.putfield 7, 3) := by decide +kernel
theorem dX5_init_11 : decode cX5_init 11 = .ok (.aload_n 0, 1) := by decide +kernel
theorem dX5_init_12 : decode cX5_init 12 = .ok (.iconst 5, 1) := by decide +kernel
theorem dX5_init_13 : decode cX5_init 13 = .ok (.newarray .int, 2) := by decide +kernel
theorem dX5_init_15 : decode cX5_init 15 = .ok (.putfield 13, 3) := by decide +kernel
theorem dX5_init_18 : decode cX5_init 18 = .ok (.aload_n 0, 1) := by decide +kernel
theorem dX5_init_19 : decode cX5_init 19 = .ok (.iconst 5, 1) := by decide +kernel
theorem dX5_init_20 : decode cX5_init 20 = .ok (.newarray .int, 2) := by decide +kernel
theorem dX5_init_22 : decode cX5_init 22 = .ok (.putfield 16, 3) := by decide +kernel
theorem dX5_init_25 : decode cX5_init 25 = .ok (.aload_n 0, 1) := by decide +kernel
theorem dX5_init_26 : decode cX5_init 26 = .ok (.iconst 5, 1) := by decide +kernel
theorem dX5_init_27 : decode cX5_init 27 = .ok (.newarray .int, 2) := by decide +kernel
theorem dX5_init_29 : decode cX5_init 29 = .ok (.putfield 19, 3) := by decide +kernel
theorem dX5_init_32 : decode cX5_init 32 = .ok (.aload_n 0, 1) := by decide +kernel
theorem dX5_init_33 : decode cX5_init 33 = .ok (.iconst 5, 1) := by decide +kernel
theorem dX5_init_34 : decode cX5_init 34 = .ok (.newarray .int, 2) := by decide +kernel
theorem dX5_init_36 : decode cX5_init 36 = .ok (.putfield 22, 3) := by decide +kernel
theorem dX5_init_39 : decode cX5_init 39 = .ok (.aload_n 0, 1) := by decide +kernel
theorem dX5_init_40 : decode cX5_init 40 = .ok (.sipush 1280, 3) := by decide +kernel
theorem dX5_init_43 : decode cX5_init 43 = .ok (.newarray .int, 2) := by decide +kernel
theorem dX5_init_45 : decode cX5_init 45 = .ok (.putfield 25, 3) := by decide +kernel
theorem dX5_init_48 : decode cX5_init 48 = .ok (.aload_n 0, 1) := by decide +kernel
theorem dX5_init_49 : decode cX5_init 49 = .ok (.sipush 2560, 3) := by decide +kernel
theorem dX5_init_52 : decode cX5_init 52 = .ok (.newarray .int, 2) := by decide +kernel
theorem dX5_init_54 : decode cX5_init 54 = .ok (.putfield 28, 3) := by decide +kernel
theorem dX5_init_57 : decode cX5_init 57 = .ok (.aload_n 0, 1) := by decide +kernel
theorem dX5_init_58 : decode cX5_init 58 = .ok (.bipush 80, 2) := by decide +kernel
theorem dX5_init_60 : decode cX5_init 60 = .ok (.newarray .int, 2) := by decide +kernel
theorem dX5_init_62 : decode cX5_init 62 = .ok (.putfield 31, 3) := by decide +kernel
theorem dX5_init_65 : decode cX5_init 65 = .ok (.aload_n 0, 1) := by decide +kernel
theorem dX5_init_66 : decode cX5_init 66 = .ok (.bipush 80, 2) := by decide +kernel
theorem dX5_init_68 : decode cX5_init 68 = .ok (.newarray .int, 2) := by decide +kernel
theorem dX5_init_70 : decode cX5_init 70 = .ok (.putfield 34, 3) := by decide +kernel
theorem dX5_init_73 : decode cX5_init 73 = .ok (.aload_n 0, 1) := by decide +kernel
theorem dX5_init_74 : decode cX5_init 74 = .ok (.iconst 5, 1) := by decide +kernel
theorem dX5_init_75 : decode cX5_init 75 = .ok (.newarray .int, 2) := by decide +kernel
theorem dX5_init_77 : decode cX5_init 77 = .ok (.putfield 37, 3) := by decide +kernel
theorem dX5_init_80 : decode cX5_init 80 = .ok (.aload_n 0, 1) := by decide +kernel
theorem dX5_init_81 : decode cX5_init 81 = .ok (.iconst 3, 1) := by decide +kernel
theorem dX5_init_82 : decode cX5_init 82 = .ok (.newarray .int, 2) := by decide +kernel
theorem dX5_init_84 : decode cX5_init 84 = .ok (.putfield 40, 3) := by decide +kernel
theorem dX5_init_87 : decode cX5_init 87 = .ok (.aload_n 0, 1) := by decide +kernel
theorem dX5_init_88 : decode cX5_init 88 = .ok (.iconst 3, 1) := by decide +kernel
theorem dX5_init_89 : decode cX5_init 89 = .ok (.newarray .int, 2) := by decide +kernel
theorem dX5_init_91 : decode cX5_init 91 = .ok (.putfield 43, 3) := by decide +kernel
theorem dX5_init_94 : decode cX5_init 94 = .ok (.aload_n 0, 1) := by decide +kernel
theorem dX5_init_95 : decode cX5_init 95 = .ok (.bipush 24, 2) := by decide +kernel
theorem dX5_init_97 : decode cX5_init 97 = .ok (.newarray .boolean, 2) := by decide +kernel
theorem dX5_init_99 : decode cX5_init 99 = .ok (.putfield 46, 3) := by decide +kernel
theorem dX5_init_102 : decode cX5_init 102 = .ok (.aload_n 0, 1) := by decide +kernel
theorem dX5_init_103 : decode cX5_init 103 = .ok (.iconst 3, 1) := by decide +kernel
theorem dX5_init_104 : decode cX5_init 104 = .ok (.newarray .int, 2) := by decide +kernel
theorem dX5_init_106 : decode cX5_init 106 = .ok (.putfield 50, 3) := by decide +kernel
theorem dX5_init_109 : decode cX5_init 109 = .ok (.aload_n 0, 1) := by decide +kernel
theorem dX5_init_110 : decode cX5_init 110 = .ok (.iconst 3, 1) := by decide +kernel
theorem dX5_init_111 : decode cX5_init 111 = .ok (.newarray .int, 2) := by decide +kernel
theorem dX5_init_113 : decode cX5_init 113 = .ok (.putfield 53, 3) := by decide +kernel
theorem dX5_init_116 : decode cX5_init 116 = .ok (.aload_n 0, 1) := by decide +kernel
theorem dX5_init_117 : decode cX5_init 117 = .ok (.iconst 3, 1) := by decide +kernel
theorem dX5_init_118 : decode cX5_init 118 = .ok (.newarray .int, 2) := by decide +kernel
theorem dX5_init_120 : decode cX5_init 120 = .ok (.putfield 56, 3) := by decide +kernel
theorem dX5_init_123 : decode cX5_init 123 = .ok (.aload_n 0, 1) := by decide +kernel
theorem dX5_init_124 : decode cX5_init 124 = .ok (.bipush 8, 2) := by decide +kernel
theorem dX5_init_126 : decode cX5_init 126 = .ok (.newarray .int, 2) := by decide +kernel
theorem dX5_init_128 : decode cX5_init 128 = .ok (.putfield 59, 3) := by decide +kernel
theorem dX5_init_131 : decode cX5_init 131 = .ok (.iconst 0, 1) := by decide +kernel
theorem dX5_init_132 : decode cX5_init 132 = .ok (.istore_n 1, 1) := by decide +kernel
theorem dX5_init_133 : decode cX5_init 133 = .ok (.iload_n 1, 1) := by decide +kernel
theorem dX5_init_134 : decode cX5_init 134 = .ok (.iconst 3, 1) := by decide +kernel
theorem dX5_init_135 : decode cX5_init 135 = .ok (.if_icmp .ge 32, 3) := by decide +kernel
theorem dX5_init_138 : decode cX5_init 138 = .ok (.aload_n 0, 1) := by decide +kernel
theorem dX5_init_139 : decode cX5_init 139 = .ok (.getfield 40, 3) := by decide +kernel
theorem dX5_init_142 : decode cX5_init 142 = .ok (.iload_n 1, 1) := by decide +kernel
theorem dX5_init_143 : decode cX5_init 143 = .ok (.bipush 100, 2) := by decide +kernel
theorem dX5_init_145 : decode cX5_init 145 = .ok (.iastore, 1) := by decide +kernel
theorem dX5_init_146 : decode cX5_init 146 = .ok (.aload_n 0, 1) := by decide +kernel
theorem dX5_init_147 : decode cX5_init 147 = .ok (.getfield 43, 3) := by decide +kernel
theorem dX5_init_150 : decode cX5_init 150 = .ok (.iload_n 1, 1) := by decide +kernel
theorem dX5_init_151 : decode cX5_init 151 = .ok (.bipush 100, 2) := by decide +kernel
theorem dX5_init_153 : decode cX5_init 153 = .ok (.iastore, 1) := by decide +kernel
theorem dX5_init_154 : decode cX5_init 154 = .ok (.aload_n 0, 1) := by decide +kernel
theorem dX5_init_155 : decode cX5_init 155 = .ok (.getfield 53, 3) := by decide +kernel
theorem dX5_init_158 : decode cX5_init 158 = .ok (.iload_n 1, 1) := by decide +kernel
theorem dX5_init_159 : decode cX5_init 159 = .ok (.iconst (-1), 1) := by decide +kernel
theorem dX5_init_160 : decode cX5_init 160 = .ok (.iastore, 1) := by decide +kernel
theorem dX5_init_161 : decode cX5_init 161 = .ok (.iinc 1 1, 3) := by decide +kernel
theorem dX5_init_164 : decode cX5_init 164 = .ok (.goto (-31), 3) := by decide +kernel
theorem dX5_init_167 : decode cX5_init 167 = .ok (.iconst 0, 1) := by decide +kernel
theorem dX5_init_168 : decode cX5_init 168 = .ok (.istore_n 1, 1) := by decide +kernel
theorem dX5_init_169 : decode cX5_init 169 = .ok (.iload_n 1, 1) := by decide +kernel
theorem dX5_init_170 : decode cX5_init 170 = .ok (.bipush 80, 2) := by decide +kernel
theorem dX5_init_172 : decode cX5_init 172 = .ok (.if_icmp .ge 23, 3) := by decide +kernel
theorem dX5_init_175 : decode cX5_init 175 = .ok (.aload_n 0, 1) := by decide +kernel
theorem dX5_init_176 : decode cX5_init 176 = .ok (.getfield 31, 3) := by decide +kernel
theorem dX5_init_179 : decode cX5_init 179 = .ok (.iload_n 1, 1) := by decide +kernel
theorem dX5_init_180 : decode cX5_init 180 = .ok (.iconst (-1), 1) := by decide +kernel
theorem dX5_init_181 : decode cX5_init 181 = .ok (.iastore, 1) := by decide +kernel
theorem dX5_init_182 : decode cX5_init 182 = .ok (.aload_n 0, 1) := by decide +kernel
theorem dX5_init_183 : decode cX5_init 183 = .ok (.getfield 34, 3) := by decide +kernel
theorem dX5_init_186 : decode cX5_init 186 = .ok (.iload_n 1, 1) := by decide +kernel
theorem dX5_init_187 : decode cX5_init 187 = .ok (.iconst (-1), 1) := by decide +kernel
theorem dX5_init_188 : decode cX5_init 188 = .ok (.iastore, 1) := by decide +kernel
theorem dX5_init_189 : decode cX5_init 189 = .ok (.iinc 1 1, 3) := by decide +kernel
theorem dX5_init_192 : decode cX5_init 192 = .ok (.goto (-23), 3) := by decide +kernel
theorem dX5_init_195 : decode cX5_init 195 = .ok (.return_, 1) := by decide +kernel
def wX5_put_L111 (c0 : Nat) (c3 : Int32) : Nat → Int32 → Int32 → HS → (Int32 → Int32 → HS → Prop) → Prop
  | 0, _, _, _, _ => False
  | n + 1, m6, m7, S, K => (((80 : Int32) ≤ m7 → K m6 m7 S) ∧ (¬ (80 : Int32) ≤ m7 → (ok S c0 5 ∧ (∀ o3, o3 = gR S 169 c0 → (∃ q3, o3 = some q3 ∧ (ok S q3 6 ∧ vp_in m7 (gN S q3) ∧ ((¬ (gA S q3 m7.toNatClampNeg) = c3 → wX5_put_L111 c0 c3 n (m6 + (0 : Int32)) (m7 + (1 : Int32)) S K) ∧ ((gA S q3 m7.toNatClampNeg) = c3 → wX5_put_L111 c0 c3 n (m6 + (1 : Int32)) (m7 + (1 : Int32)) S K))))))))
def wX5_put_J84 (v0 : Nat) (v3 : Int32) (v5 : Int32) (t0 : Nat) (S : HS) (Q : Int32 → HS → Prop) : Prop := (ok S t0 5 ∧ (wX5_fails t0 (2 : Int32) S (fun r2 S2 => ((r2 = 0 → (ok S2 v0 5 ∧ (∀ o2, o2 = gR S2 169 v0 → (∃ q2, o2 = some q2 ∧ (ok S2 q2 6 ∧ vp_in v5 (gN S2 q2) ∧ (∀ S3, S3 = sA S2 q2 v5.toNatClampNeg v3 → (∃ n1 : Nat, wX5_put_L111 v0 v3 n1 (0 : Int32) (0 : Int32) S3 (fun u1 u2 S4 => Q u1 S4)))))))) ∧ (¬ r2 = 0 → Q (0 : Int32) S2)))))
def wX5_put_J38 (v0 : Nat) (v3 : Int32) (v4 : Int32) (t0 : Int32) (S : HS) (Q : Int32 → HS → Prop) : Prop := ((¬ v4 = 0 → (ok S v0 5 ∧ (∀ o1, o1 = gR S 169 v0 → (∃ q1, o1 = some q1 ∧ (ok S q1 6 ∧ vp_in t0 (gN S q1) ∧ ((¬ (gA S q1 t0.toNatClampNeg) = (-1 : Int32) → wX5_put_J84 v0 v3 t0 v0 S Q) ∧ ((gA S q1 t0.toNatClampNeg) = (-1 : Int32) → (ok S v0 5 ∧ (wX5_isPrinting v0 t0 S (fun r3 S5 => ((¬ r3 = 0 → wX5_put_J84 v0 v3 t0 v0 S5 Q) ∧ (r3 = 0 → (ok S5 v0 5 ∧ (∀ o4, o4 = gR S5 170 v0 → (∃ q4, o4 = some q4 ∧ (ok S5 q4 6 ∧ vp_in t0 (gN S5 q4) ∧ (ok S5 v0 5 ∧ (((gA S5 q4 t0.toNatClampNeg) ≤ (gI S5 160 v0) → (ok S5 v0 5 ∧ (wX5_fails v0 (0 : Int32) S5 (fun r4 S6 => ((r4 = 0 → (ok S6 v0 5 ∧ (∀ o5, o5 = gR S6 169 v0 → (∃ q5, o5 = some q5 ∧ (ok S6 q5 6 ∧ vp_in t0 (gN S6 q5) ∧ (∀ S7, S7 = sA S6 q5 t0.toNatClampNeg v3 → (∃ n2 : Nat, wX5_put_L111 v0 v3 n2 (0 : Int32) (0 : Int32) S7 (fun u3 u4 S8 => Q u3 S8)))))))) ∧ (¬ r4 = 0 → Q (0 : Int32) S6)))))) ∧ (¬ (gA S5 q4 t0.toNatClampNeg) ≤ (gI S5 160 v0) → wX5_put_J84 v0 v3 t0 v0 S5 Q))))))))))))))))))) ∧ (v4 = 0 → (ok S v0 5 ∧ (wX5_fails v0 (1 : Int32) S (fun r5 S9 => ((r5 = 0 → (ok S9 v0 5 ∧ (∀ o6, o6 = gR S9 169 v0 → (∃ q6, o6 = some q6 ∧ (ok S9 q6 6 ∧ vp_in t0 (gN S9 q6) ∧ (∀ S10, S10 = sA S9 q6 t0.toNatClampNeg v3 → (∃ n3 : Nat, wX5_put_L111 v0 v3 n3 (0 : Int32) (0 : Int32) S10 (fun u5 u6 S11 => Q u5 S11)))))))) ∧ (¬ r5 = 0 → Q (0 : Int32) S9)))))))
def wX5_put_J21 (v0 : Nat) (v1 : Int32) (v2 : Int32) (v3 : Int32) (t0 : Int32) (S : HS) (Q : Int32 → HS → Prop) : Prop := ((t0 = 0 → wX5_put_J38 v0 v3 t0 (0 : Int32) S Q) ∧ (¬ t0 = 0 → wX5_put_J38 v0 v3 t0 (((16 : Int32) * v1) + v2) S Q))
def wX5_put_J20 (v0 : Nat) (v1 : Int32) (v2 : Int32) (v3 : Int32) (S : HS) (Q : Int32 → HS → Prop) : Prop := wX5_put_J21 v0 v1 v2 v3 (0 : Int32) S Q
def wX5_put (a0 : Nat) (x1 : Int32) (x2 : Int32) (x3 : Int32) (S : HS) (Q : Int32 → HS → Prop) : Prop := (ok S a0 5 ∧ (wX5_isStrip a0 x1 x2 S (fun r1 S1 => ((r1 = 0 → wX5_put_J20 a0 x1 x2 x3 S1 Q) ∧ (¬ r1 = 0 → (wX5_isPrinter x3 S1 (fun r6 S12 => ((r6 = 0 → wX5_put_J20 a0 x1 x2 x3 S12 Q) ∧ (¬ r6 = 0 → wX5_put_J21 a0 x1 x2 x3 (1 : Int32) S12 Q)))))))))
def wX5_pass_L29 (c0 : Nat) (c1 : Int32) : Nat → Int32 → Int32 → HS → (Int32 → Int32 → HS → Prop) → Prop
  | 0, _, _, _, _ => False
  | n + 1, m2, m3, S, K => ((c1 ≤ m3 → K m2 m3 S) ∧ (¬ c1 ≤ m3 → (ok S c0 5 ∧ (wX5_goesOn c0 S (fun r3 S3 => wX5_pass_L29 c0 c1 n (m2 + r3) (m3 + (1 : Int32)) S3 K)))))
def wX5_pass (a0 : Nat) (x1 : Int32) (S : HS) (Q : Int32 → HS → Prop) : Prop := (wX5_isIn x1 (1 : Int32) (200 : Int32) S (fun r1 S1 => ((r1 = 0 → (ok S1 a0 5 ∧ (wX5_fails a0 (1 : Int32) S1 (fun r2 S2 => ((r2 = 0 → (∃ n1 : Nat, wX5_pass_L29 a0 x1 n1 (0 : Int32) (0 : Int32) S2 (fun u1 u2 S4 => Q u1 S4))) ∧ (¬ r2 = 0 → Q (0 : Int32) S2)))))) ∧ (¬ r1 = 0 → (ok S1 a0 5 ∧ (wX5_fails a0 (0 : Int32) S1 (fun r4 S5 => ((r4 = 0 → (∃ n2 : Nat, wX5_pass_L29 a0 x1 n2 (0 : Int32) (0 : Int32) S5 (fun u3 u4 S6 => Q u3 S6))) ∧ (¬ r4 = 0 → Q (0 : Int32) S5)))))))))
def wX5_prints_J13 (v0 : Nat) (v1 : Int32) (t0 : Int32) (t1 : Nat) (S : HS) (Q : Int32 → HS → Prop) : Prop := (ok S t1 5 ∧ (wX5_fails t1 t0 S (fun r2 S2 => ((r2 = 0 → (ok S2 v0 5 ∧ (∀ o1, o1 = gR S2 176 v0 → (∃ q1, o1 = some q1 ∧ (ok S2 q1 6 ∧ vp_in v1 (gN S2 q1) ∧ ((¬ (gA S2 q1 v1.toNatClampNeg) = (-1 : Int32) → Q ((((1000 : Int32) * ((gA S2 q1 v1.toNatClampNeg) / (16 : Int32))) + ((10 : Int32) * ((gA S2 q1 v1.toNatClampNeg) - (gA S2 q1 v1.toNatClampNeg) / (16 : Int32) * (16 : Int32)))) + (1 : Int32)) S2) ∧ ((gA S2 q1 v1.toNatClampNeg) = (-1 : Int32) → Q (0 : Int32) S2))))))) ∧ (¬ r2 = 0 → Q (0 : Int32) S2)))))
def wX5_prints (a0 : Nat) (x1 : Int32) (S : HS) (Q : Int32 → HS → Prop) : Prop := (wX5_isPrinter x1 S (fun r1 S1 => ((r1 = 0 → wX5_prints_J13 a0 x1 (1 : Int32) a0 S1 Q) ∧ (¬ r1 = 0 → wX5_prints_J13 a0 x1 (0 : Int32) a0 S1 Q))))

def wX5_dry (a0 : Nat) (x1 : Int32) (x2 : Int32) (S : HS) (Q : Int32 → HS → Prop) : Prop := (ok S a0 5 ∧ (wX5_isStrip a0 x1 x2 S (fun r1 S1 => ((r1 = 0 → (ok S1 a0 5 ∧ (wX5_fails a0 (1 : Int32) S1 (fun r2 S2 => ((r2 = 0 → (ok S2 a0 5 ∧ (∀ o1, o1 = gR S2 170 a0 → (∃ q1, o1 = some q1 ∧ (ok S2 q1 6 ∧ vp_in (((16 : Int32) * x1) + x2) (gN S2 q1) ∧ Q (gA S2 q1 (((16 : Int32) * x1) + x2).toNatClampNeg) S2))))) ∧ (¬ r2 = 0 → Q (0 : Int32) S2)))))) ∧ (¬ r1 = 0 → (ok S1 a0 5 ∧ (wX5_fails a0 (0 : Int32) S1 (fun r3 S3 => ((r3 = 0 → (ok S3 a0 5 ∧ (∀ o2, o2 = gR S3 170 a0 → (∃ q2, o2 = some q2 ∧ (ok S3 q2 6 ∧ vp_in (((16 : Int32) * x1) + x2) (gN S3 q2) ∧ Q (gA S3 q2 (((16 : Int32) * x1) + x2).toNatClampNeg) S3))))) ∧ (¬ r3 = 0 → Q (0 : Int32) S3))))))))))

def wX5_ink (a0 : Nat) (x1 : Int32) (x2 : Int32) (x3 : Int32) (S : HS) (Q : Int32 → HS → Prop) : Prop := (ok S a0 5 ∧ (wX5_isDot a0 x1 x2 x3 S (fun r1 S1 => ((r1 = 0 → (ok S1 a0 5 ∧ (wX5_fails a0 (1 : Int32) S1 (fun r2 S2 => ((r2 = 0 → (ok S2 a0 5 ∧ (wX5_inkOf a0 x1 x2 x3 S2 (fun r3 S3 => Q r3 S3)))) ∧ (¬ r2 = 0 → Q (0 : Int32) S2)))))) ∧ (¬ r1 = 0 → (ok S1 a0 5 ∧ (wX5_fails a0 (0 : Int32) S1 (fun r4 S4 => ((r4 = 0 → (ok S4 a0 5 ∧ (wX5_inkOf a0 x1 x2 x3 S4 (fun r5 S5 => Q r5 S5)))) ∧ (¬ r4 = 0 → Q (0 : Int32) S4))))))))))
def wX5_spilt_L26 (c0 : Nat) (c1 : Int32) : Nat → Int32 → Int32 → HS → (Int32 → Int32 → HS → Prop) → Prop
  | 0, _, _, _, _ => False
  | n + 1, m2, m3, S, K => (ok S c0 5 ∧ (∀ o1, o1 = gR S 162 c0 → (∃ q1, o1 = some q1 ∧ (ok S q1 6 ∧ vp_in c1 (gN S q1) ∧ ((((8 : Int32) * (gA S q1 c1.toNatClampNeg)) ≤ m3 → K m2 m3 S) ∧ (¬ ((8 : Int32) * (gA S q1 c1.toNatClampNeg)) ≤ m3 → (ok S c0 5 ∧ (wX5_all c0 c1 (m3 - m3 / (8 : Int32) * (8 : Int32)) (m3 / (8 : Int32)) S (fun r3 S3 => (ok S3 c0 5 ∧ (∀ o2, o2 = gR S3 165 c0 → (∃ q2, o2 = some q2 ∧ (ok S3 q2 6 ∧ vp_in c1 (gN S3 q2) ∧ ((r3 ≤ (gA S3 q2 c1.toNatClampNeg) → wX5_spilt_L26 c0 c1 n (m2 + (0 : Int32)) (m3 + (1 : Int32)) S3 K) ∧ (¬ r3 ≤ (gA S3 q2 c1.toNatClampNeg) → wX5_spilt_L26 c0 c1 n (m2 + (1 : Int32)) (m3 + (1 : Int32)) S3 K)))))))))))))))
def wX5_spilt (a0 : Nat) (x1 : Int32) (S : HS) (Q : Int32 → HS → Prop) : Prop := (ok S a0 5 ∧ (wX5_isBanner a0 x1 S (fun r1 S1 => ((r1 = 0 → (ok S1 a0 5 ∧ (wX5_fails a0 (1 : Int32) S1 (fun r2 S2 => ((r2 = 0 → (∃ n1 : Nat, wX5_spilt_L26 a0 x1 n1 (0 : Int32) (0 : Int32) S2 (fun u1 u2 S4 => Q u1 S4))) ∧ (¬ r2 = 0 → Q (0 : Int32) S2)))))) ∧ (¬ r1 = 0 → (ok S1 a0 5 ∧ (wX5_fails a0 (0 : Int32) S1 (fun r4 S5 => ((r4 = 0 → (∃ n2 : Nat, wX5_spilt_L26 a0 x1 n2 (0 : Int32) (0 : Int32) S5 (fun u3 u4 S6 => Q u3 S6))) ∧ (¬ r4 = 0 → Q (0 : Int32) S5))))))))))
def wX5_used_J27 (v0 : Nat) (v1 : Int32) (v2 : Int32) (t0 : Int32) (t1 : Nat) (S : HS) (Q : Int32 → HS → Prop) : Prop := (ok S t1 5 ∧ (wX5_fails t1 t0 S (fun r2 S2 => ((r2 = 0 → ((v1 = 0 → (ok S2 v0 5 ∧ (∀ o1, o1 = gR S2 175 v0 → (∃ q1, o1 = some q1 ∧ (ok S2 q1 6 ∧ vp_in v2 (gN S2 q1) ∧ Q (gA S2 q1 v2.toNatClampNeg) S2))))) ∧ (¬ v1 = 0 → (ok S2 v0 5 ∧ (∀ o2, o2 = gR S2 171 v0 → (∃ q2, o2 = some q2 ∧ (ok S2 q2 6 ∧ vp_in v2 (gN S2 q2) ∧ Q (gA S2 q2 v2.toNatClampNeg) S2))))))) ∧ (¬ r2 = 0 → Q (0 : Int32) S2)))))
def wX5_used_J16 (v0 : Nat) (v1 : Int32) (v2 : Int32) (t0 : Int32) (S : HS) (Q : Int32 → HS → Prop) : Prop := ((t0 = 0 → wX5_used_J27 v0 v1 v2 (1 : Int32) v0 S Q) ∧ (¬ t0 = 0 → wX5_used_J27 v0 v1 v2 (0 : Int32) v0 S Q))
def wX5_used (a0 : Nat) (x1 : Int32) (x2 : Int32) (S : HS) (Q : Int32 → HS → Prop) : Prop := ((x1 = 0 → (wX5_isPrinter x2 S (fun r1 S1 => wX5_used_J16 a0 x1 x2 r1 S1 Q))) ∧ (¬ x1 = 0 → (ok S a0 5 ∧ (wX5_isBanner a0 x2 S (fun r3 S3 => wX5_used_J16 a0 x1 x2 r3 S3 Q)))))
def wX5_seam_L166 (c0 : Nat) (c1 : Int32) (c6 : Int32) (c8 : Int32) : Nat → Int32 → Int32 → HS → (Int32 → Int32 → HS → Prop) → Prop
  | 0, _, _, _, _ => False
  | n + 1, m7, m9, S, K => (((8 : Int32) ≤ m9 → K m7 m9 S) ∧ (¬ (8 : Int32) ≤ m9 → (ok S c0 5 ∧ (wX5_error c0 c1 m9 c8 S (fun r5 S5 => ((r5 ≤ m7 → wX5_seam_L166 c0 c1 c6 c8 n m7 (m9 + (1 : Int32)) S5 K) ∧ (¬ r5 ≤ m7 → wX5_seam_L166 c0 c1 c6 c8 n r5 (m9 + (1 : Int32)) S5 K)))))))
def wX5_seam_L156 (c0 : Nat) (c1 : Int32) (c6 : Int32) : Nat → Int32 → Int32 → HS → (Int32 → Int32 → HS → Prop) → Prop
  | 0, _, _, _, _ => False
  | n + 1, m7, m8, S, K => ((c6 ≤ m8 → K m7 m8 S) ∧ (¬ c6 ≤ m8 → (∃ n1 : Nat, wX5_seam_L166 c0 c1 c6 m8 n1 m7 (0 : Int32) S (fun u1 u2 S6 => wX5_seam_L156 c0 c1 c6 n u1 (m8 + (1 : Int32)) S6 K))))
def wX5_seam_J127 (v0 : Nat) (v1 : Int32) (v6 : Int32) (t0 : Int32) (S : HS) (Q : Int32 → HS → Prop) : Prop := (ok S v0 5 ∧ (∀ o3, o3 = gR S 164 v0 → (∃ q3, o3 = some q3 ∧ (ok S q3 6 ∧ vp_in v1 (gN S q3) ∧ ((¬ (gA S q3 v1.toNatClampNeg) = 0 → (∃ n2 : Nat, wX5_seam_L156 v0 v1 v6 n2 (0 : Int32) t0 S (fun u3 u4 S7 => Q u3 S7))) ∧ ((gA S q3 v1.toNatClampNeg) = 0 → (∃ n3 : Nat, wX5_seam_L156 v0 v1 (v6 + (1 : Int32)) n3 (0 : Int32) t0 S (fun u5 u6 S8 => Q u5 S8))))))))
def wX5_seam_J83 (v0 : Nat) (v1 : Int32) (v2 : Int32) (t0 : Int32) (t1 : Nat) (S : HS) (Q : Int32 → HS → Prop) : Prop := (ok S t1 5 ∧ (wX5_fails t1 t0 S (fun r2 S2 => ((r2 = 0 → (ok S2 v0 5 ∧ (wX5_first v0 v1 (v2 + (1 : Int32)) S2 (fun r3 S3 => (ok S3 v0 5 ∧ (wX5_end v0 v1 v2 S3 (fun r4 S4 => (ok S4 v0 5 ∧ (∀ o2, o2 = gR S4 164 v0 → (∃ q2, o2 = some q2 ∧ (ok S4 q2 6 ∧ vp_in v1 (gN S4 q2) ∧ ((¬ (gA S4 q2 v1.toNatClampNeg) = 0 → wX5_seam_J127 v0 v1 r4 r3 S4 Q) ∧ ((gA S4 q2 v1.toNatClampNeg) = 0 → wX5_seam_J127 v0 v1 r4 (r3 - (1 : Int32)) S4 Q))))))))))))) ∧ (¬ r2 = 0 → Q (0 : Int32) S2)))))
def wX5_seam_J78 (v0 : Nat) (v1 : Int32) (v2 : Int32) (t0 : Nat) (S : HS) (Q : Int32 → HS → Prop) : Prop := wX5_seam_J83 v0 v1 v2 (2 : Int32) t0 S Q
def wX5_seam_J43 (v0 : Nat) (v1 : Int32) (v2 : Int32) (v3 : Int32) (t0 : Int32) (S : HS) (Q : Int32 → HS → Prop) : Prop := ((¬ v3 = 0 → (ok S v0 5 ∧ (∀ o1, o1 = gR S 170 v0 → (∃ q1, o1 = some q1 ∧ (ok S q1 6 ∧ vp_in t0 (gN S q1) ∧ (((gA S q1 t0.toNatClampNeg) = (-1 : Int32) → wX5_seam_J78 v0 v1 v2 v0 S Q) ∧ (¬ (gA S q1 t0.toNatClampNeg) = (-1 : Int32) → (ok S v0 5 ∧ (∀ o4, o4 = gR S 170 v0 → (∃ q4, o4 = some q4 ∧ (ok S q4 6 ∧ vp_in (t0 + (1 : Int32)) (gN S q4) ∧ ((¬ (gA S q4 (t0 + (1 : Int32)).toNatClampNeg) = (-1 : Int32) → wX5_seam_J83 v0 v1 v2 (0 : Int32) v0 S Q) ∧ ((gA S q4 (t0 + (1 : Int32)).toNatClampNeg) = (-1 : Int32) → wX5_seam_J78 v0 v1 v2 v0 S Q))))))))))))) ∧ (v3 = 0 → wX5_seam_J83 v0 v1 v2 (1 : Int32) v0 S Q))
def wX5_seam_J28 (v0 : Nat) (v1 : Int32) (v2 : Int32) (t0 : Int32) (S : HS) (Q : Int32 → HS → Prop) : Prop := ((t0 = 0 → wX5_seam_J43 v0 v1 v2 t0 (0 : Int32) S Q) ∧ (¬ t0 = 0 → wX5_seam_J43 v0 v1 v2 t0 (((16 : Int32) * v1) + v2) S Q))
def wX5_seam_J27 (v0 : Nat) (v1 : Int32) (v2 : Int32) (S : HS) (Q : Int32 → HS → Prop) : Prop := wX5_seam_J28 v0 v1 v2 (0 : Int32) S Q
def wX5_seam (a0 : Nat) (x1 : Int32) (x2 : Int32) (S : HS) (Q : Int32 → HS → Prop) : Prop := (ok S a0 5 ∧ (wX5_isBanner a0 x1 S (fun r1 S1 => ((r1 = 0 → wX5_seam_J27 a0 x1 x2 S1 Q) ∧ (¬ r1 = 0 → (ok S1 a0 5 ∧ (wX5_stripsOf a0 x1 S1 (fun r6 S9 => (wX5_isIn x2 (0 : Int32) (r6 - (2 : Int32)) S9 (fun r7 S10 => ((r7 = 0 → wX5_seam_J27 a0 x1 x2 S10 Q) ∧ (¬ r7 = 0 → wX5_seam_J28 a0 x1 x2 (1 : Int32) S10 Q))))))))))))
def wX5_meanError_L26 (c0 : Nat) (c1 : Int32) : Nat → Int32 → Int32 → HS → (Int32 → Int32 → HS → Prop) → Prop
  | 0, _, _, _, _ => False
  | n + 1, m2, m3, S, K => (ok S c0 5 ∧ (∀ o1, o1 = gR S 162 c0 → (∃ q1, o1 = some q1 ∧ (ok S q1 6 ∧ vp_in c1 (gN S q1) ∧ ((((8 : Int32) * (gA S q1 c1.toNatClampNeg)) ≤ m3 → K m2 m3 S) ∧ (¬ ((8 : Int32) * (gA S q1 c1.toNatClampNeg)) ≤ m3 → (ok S c0 5 ∧ (wX5_error c0 c1 (m3 - m3 / (8 : Int32) * (8 : Int32)) (m3 / (8 : Int32)) S (fun r3 S3 => wX5_meanError_L26 c0 c1 n (m2 + r3) (m3 + (1 : Int32)) S3 K)))))))))
def wX5_meanError (a0 : Nat) (x1 : Int32) (S : HS) (Q : UInt32 → HS → Prop) : Prop := (ok S a0 5 ∧ (wX5_isBanner a0 x1 S (fun r1 S1 => ((r1 = 0 → (ok S1 a0 5 ∧ (wX5_fails a0 (1 : Int32) S1 (fun r2 S2 => ((r2 = 0 → (∃ n1 : Nat, wX5_meanError_L26 a0 x1 n1 (0 : Int32) (0 : Int32) S2 (fun u1 u2 S4 => (ok S4 a0 5 ∧ (∀ o2, o2 = gR S4 162 a0 → (∃ q2, o2 = some q2 ∧ (ok S4 q2 6 ∧ vp_in x1 (gN S4 q2) ∧ (vf_n32 (FP.fdiv (FP.i2f u1) (FP.i2f ((8 : Int32) * (gA S4 q2 x1.toNatClampNeg)))) ∧ Q (FP.fdiv (FP.i2f u1) (FP.i2f ((8 : Int32) * (gA S4 q2 x1.toNatClampNeg)))) S4)))))))) ∧ (¬ r2 = 0 → Q FP.fconst0 S2)))))) ∧ (¬ r1 = 0 → (ok S1 a0 5 ∧ (wX5_fails a0 (0 : Int32) S1 (fun r4 S5 => ((r4 = 0 → (∃ n2 : Nat, wX5_meanError_L26 a0 x1 n2 (0 : Int32) (0 : Int32) S5 (fun u3 u4 S6 => (ok S6 a0 5 ∧ (∀ o3, o3 = gR S6 162 a0 → (∃ q3, o3 = some q3 ∧ (ok S6 q3 6 ∧ vp_in x1 (gN S6 q3) ∧ (vf_n32 (FP.fdiv (FP.i2f u3) (FP.i2f ((8 : Int32) * (gA S6 q3 x1.toNatClampNeg)))) ∧ Q (FP.fdiv (FP.i2f u3) (FP.i2f ((8 : Int32) * (gA S6 q3 x1.toNatClampNeg)))) S6)))))))) ∧ (¬ r4 = 0 → Q FP.fconst0 S5))))))))))
def wX5_init_L133 (c0 : Nat) : Nat → Int32 → HS → (Int32 → HS → Prop) → Prop
  | 0, _, _, _ => False
  | n + 1, m1, S, K => (((3 : Int32) ≤ m1 → K m1 S) ∧ (¬ (3 : Int32) ≤ m1 → (ok S c0 5 ∧ (∀ o1, o1 = gR S 172 c0 → (∃ q18, o1 = some q18 ∧ (ok S q18 6 ∧ vp_in m1 (gN S q18) ∧ (∀ S35, S35 = sA S q18 m1.toNatClampNeg (100 : Int32) → (ok S35 c0 5 ∧ (∀ o2, o2 = gR S35 173 c0 → (∃ q19, o2 = some q19 ∧ (ok S35 q19 6 ∧ vp_in m1 (gN S35 q19) ∧ (∀ S36, S36 = sA S35 q19 m1.toNatClampNeg (100 : Int32) → (ok S36 c0 5 ∧ (∀ o3, o3 = gR S36 176 c0 → (∃ q20, o3 = some q20 ∧ (ok S36 q20 6 ∧ vp_in m1 (gN S36 q20) ∧ (∀ S37, S37 = sA S36 q20 m1.toNatClampNeg (-1 : Int32) → wX5_init_L133 c0 n (m1 + (1 : Int32)) S37 K)))))))))))))))))
def wX5_init_L169 (c0 : Nat) : Nat → Int32 → HS → (Int32 → HS → Prop) → Prop
  | 0, _, _, _ => False
  | n + 1, m1, S, K => (((80 : Int32) ≤ m1 → K m1 S) ∧ (¬ (80 : Int32) ≤ m1 → (ok S c0 5 ∧ (∀ o4, o4 = gR S 169 c0 → (∃ q21, o4 = some q21 ∧ (ok S q21 6 ∧ vp_in m1 (gN S q21) ∧ (∀ S39, S39 = sA S q21 m1.toNatClampNeg (-1 : Int32) → (ok S39 c0 5 ∧ (∀ o5, o5 = gR S39 170 c0 → (∃ q22, o5 = some q22 ∧ (ok S39 q22 6 ∧ vp_in m1 (gN S39 q22) ∧ (∀ S40, S40 = sA S39 q22 m1.toNatClampNeg (-1 : Int32) → wX5_init_L169 c0 n (m1 + (1 : Int32)) S40 K))))))))))))
def wX5_init (a0 : Nat) (S : HS) (Q : HS → Prop) : Prop := (∀ q1, q1 ∉ gL S → ∀ S1, S1 = nw S 6 5 q1 → (ok S1 a0 5 ∧ (∀ S2, S2 = sR S1 162 a0 (some q1) → (∀ q2, q2 ∉ gL S2 → ∀ S3, S3 = nw S2 6 5 q2 → (ok S3 a0 5 ∧ (∀ S4, S4 = sR S3 163 a0 (some q2) → (∀ q3, q3 ∉ gL S4 → ∀ S5, S5 = nw S4 6 5 q3 → (ok S5 a0 5 ∧ (∀ S6, S6 = sR S5 164 a0 (some q3) → (∀ q4, q4 ∉ gL S6 → ∀ S7, S7 = nw S6 6 5 q4 → (ok S7 a0 5 ∧ (∀ S8, S8 = sR S7 165 a0 (some q4) → (∀ q5, q5 ∉ gL S8 → ∀ S9, S9 = nw S8 6 5 q5 → (ok S9 a0 5 ∧ (∀ S10, S10 = sR S9 166 a0 (some q5) → (∀ q6, q6 ∉ gL S10 → ∀ S11, S11 = nw S10 6 1280 q6 → (ok S11 a0 5 ∧ (∀ S12, S12 = sR S11 167 a0 (some q6) → (∀ q7, q7 ∉ gL S12 → ∀ S13, S13 = nw S12 6 2560 q7 → (ok S13 a0 5 ∧ (∀ S14, S14 = sR S13 168 a0 (some q7) → (∀ q8, q8 ∉ gL S14 → ∀ S15, S15 = nw S14 6 80 q8 → (ok S15 a0 5 ∧ (∀ S16, S16 = sR S15 169 a0 (some q8) → (∀ q9, q9 ∉ gL S16 → ∀ S17, S17 = nw S16 6 80 q9 → (ok S17 a0 5 ∧ (∀ S18, S18 = sR S17 170 a0 (some q9) → (∀ q10, q10 ∉ gL S18 → ∀ S19, S19 = nw S18 6 5 q10 → (ok S19 a0 5 ∧ (∀ S20, S20 = sR S19 171 a0 (some q10) → (∀ q11, q11 ∉ gL S20 → ∀ S21, S21 = nw S20 6 3 q11 → (ok S21 a0 5 ∧ (∀ S22, S22 = sR S21 172 a0 (some q11) → (∀ q12, q12 ∉ gL S22 → ∀ S23, S23 = nw S22 6 3 q12 → (ok S23 a0 5 ∧ (∀ S24, S24 = sR S23 173 a0 (some q12) → (∀ q13, q13 ∉ gL S24 → ∀ S25, S25 = nw S24 7 24 q13 → (ok S25 a0 5 ∧ (∀ S26, S26 = sR S25 174 a0 (some q13) → (∀ q14, q14 ∉ gL S26 → ∀ S27, S27 = nw S26 6 3 q14 → (ok S27 a0 5 ∧ (∀ S28, S28 = sR S27 175 a0 (some q14) → (∀ q15, q15 ∉ gL S28 → ∀ S29, S29 = nw S28 6 3 q15 → (ok S29 a0 5 ∧ (∀ S30, S30 = sR S29 176 a0 (some q15) → (∀ q16, q16 ∉ gL S30 → ∀ S31, S31 = nw S30 6 3 q16 → (ok S31 a0 5 ∧ (∀ S32, S32 = sR S31 177 a0 (some q16) → (∀ q17, q17 ∉ gL S32 → ∀ S33, S33 = nw S32 6 8 q17 → (ok S33 a0 5 ∧ (∀ S34, S34 = sR S33 178 a0 (some q17) → (∃ n1 : Nat, wX5_init_L133 a0 n1 (0 : Int32) S34 (fun u1 S38 => (∃ n2 : Nat, wX5_init_L169 a0 n2 (0 : Int32) S38 (fun u2 S41 => Q S41)))))))))))))))))))))))))))))))))))))))))))))))))))))))
theorem kC_X5_isPrinting : Cond.code yX5_isPrinting cX5_isPrinting 4 (some .boolean) ∈ T0 := T0_mem (i := 793) (by decide +kernel) (by decide +kernel)
theorem kM_RX5_128 : Cond.methodLink RX5 128 yX5_isPrinting ∈ T0 := T0_mem (i := 790) (by decide +kernel) (by decide +kernel)
theorem hd_X5_isPrinting : yX5_isPrinting.cls ≠ "java/lang/invoke/MethodHandle" ∧ yX5_isPrinting.cls ≠ "java/lang/invoke/VarHandle" ∧ (parseMethodDescriptor yX5_isPrinting.desc).map (fun d => d.parameters.length) = some 1 := by decide +kernel
theorem kO_X5_isPrinting : Cond.instanceMethod yX5_isPrinting ∈ T0 := T0_mem (i := 792) (by decide +kernel) (by decide +kernel)
theorem kV_X5_isPrinting : Cond.selects RX5 yX5_isPrinting yX5_isPrinting ∈ T0 := T0_mem (i := 24) (by decide +kernel) (by decide +kernel)
theorem kC_X5_goesOn : Cond.code yX5_goesOn cX5_goesOn 3 (some .int) ∈ T0 := T0_mem (i := 801) (by decide +kernel) (by decide +kernel)
theorem kM_RX5_144 : Cond.methodLink RX5 144 yX5_goesOn ∈ T0 := T0_mem (i := 798) (by decide +kernel) (by decide +kernel)
theorem hd_X5_goesOn : yX5_goesOn.cls ≠ "java/lang/invoke/MethodHandle" ∧ yX5_goesOn.cls ≠ "java/lang/invoke/VarHandle" ∧ (parseMethodDescriptor yX5_goesOn.desc).map (fun d => d.parameters.length) = some 0 := by decide +kernel
theorem kO_X5_goesOn : Cond.instanceMethod yX5_goesOn ∈ T0 := T0_mem (i := 800) (by decide +kernel) (by decide +kernel)
theorem kV_X5_goesOn : Cond.selects RX5 yX5_goesOn yX5_goesOn ∈ T0 := T0_mem (i := 25) (by decide +kernel) (by decide +kernel)
theorem kC_X5_error : Cond.code yX5_error cX5_error 5 (some .int) ∈ T0 := T0_mem (i := 849) (by decide +kernel) (by decide +kernel)
theorem kM_RX5_154 : Cond.methodLink RX5 154 yX5_error ∈ T0 := T0_mem (i := 846) (by decide +kernel) (by decide +kernel)
theorem hd_X5_error : yX5_error.cls ≠ "java/lang/invoke/MethodHandle" ∧ yX5_error.cls ≠ "java/lang/invoke/VarHandle" ∧ (parseMethodDescriptor yX5_error.desc).map (fun d => d.parameters.length) = some 3 := by decide +kernel
theorem kO_X5_error : Cond.instanceMethod yX5_error ∈ T0 := T0_mem (i := 848) (by decide +kernel) (by decide +kernel)
theorem kV_X5_error : Cond.selects RX5 yX5_error yX5_error ∈ T0 := T0_mem (i := 31) (by decide +kernel) (by decide +kernel)
theorem kM_RX5_1 : Cond.methodLink RX5 1 Lib.objectInit ∈ T0 := T0_mem (i := 620) (by decide +kernel) (by decide +kernel)
theorem kO_objinit : Cond.instanceMethod Lib.objectInit ∈ T0 := T0_mem (i := 52) (by decide +kernel) (by decide +kernel)
theorem kC_objinit : Cond.code Lib.objectInit ⟨#[0xb1]⟩ 1 none ∈ T0 := T0_mem (i := 53) (by decide +kernel) (by decide +kernel)
theorem kA_int : Cond.arrayClass .int ∈ T0 := T0_mem (i := 100) (by decide +kernel) (by decide +kernel)
theorem kA_boolean : Cond.arrayClass .boolean ∈ T0 := T0_mem (i := 99) (by decide +kernel) (by decide +kernel)
set_option maxHeartbeats 4000000 in
set_option maxRecDepth 100000 in
theorem met_X5_put (l : Launch) (a0 : Nat) (x1 : Int32) (x2 : Int32) (x3 : Int32) : MI l yX5_put cX5_put 8 (some .int) 4 89 0 0 [.ref a0, .int x1, .int x2, .int x3] (wX5_put a0 x1 x2 x3) := by
  refine MI.of (by decide) (Nat.le_of_ble_eq_true rfl) ?_
  intro p e s m below meth c D cs lo S Q ls B hr hlk hin
  have L111 : ∀ (c0 : Nat) (c3 : Int32) (K : Int32 → Int32 → HS → Prop) (n : Nat) (m6 : Int32) (m7 : Int32) (S : HS) (H : Heap) (locs : List Loc) (ls : Array Slot), Hx D cs lo s S H locs → lv_has ls 8 [(0, .ref c0), (3, .int c3), (6, .int m6), (7, .int m7)] → wX5_put_L111 c0 c3 n m6 m7 S K → (∀ (m6 : Int32) (m7 : Int32) (S : HS) (H : Heap) (locs : List Loc) (ls : Array Slot), Hx D cs lo s S H locs → lv_has ls 8 [(0, .ref c0), (3, .int c3), (6, .int m6), (7, .int m7)] → K m6 m7 S → W p l e ({ frames := 4, cells := 0, slots := 0, locals := 89 } : Room) s m [.ref a0, .int x1, .int x2, .int x3].toArray below meth c H locs 0 0 (MQ below (va_Qi Q (fun S' t => hp D cs lo S' t.heap) (fun q => lo ≤ q)) [.ref a0, .int x1, .int x2, .int x3].toArray s 0 0 (fun q => lo ≤ q)) (F0 m 145 ls [])) → W p l e ({ frames := 4, cells := 0, slots := 0, locals := 89 } : Room) s m [.ref a0, .int x1, .int x2, .int x3].toArray below meth c H locs 0 0 (MQ below (va_Qi Q (fun S' t => hp D cs lo S' t.heap) (fun q => lo ≤ q)) [.ref a0, .int x1, .int x2, .int x3].toArray s 0 0 (fun q => lo ≤ q)) (F0 m 111 ls []) := by
    intro c0 c3 K n
    induction n with
    | zero => intro m6 m7 S H locs ls h hl hw hk; exact False.elim hw
    | succ n ih =>
      intro m6 m7 S H locs ls h hl hw hk
      refine lv_iload B.1.1 B.1.2.1 dX5_put_111 (lv_at hl 3 rfl) ?_
      refine lv_bipush (v := (80 : Int32)) B.1.1 B.1.2.1 dX5_put_113 (by decide) ?_
      refine lv_icmp_ge (tgt := 145) B.1.1 B.1.2.1 dX5_put_115 (by decide) (fun hc => ?_) (fun hc => ?_)
      · replace hw := hw.1 hc
        exact hk m6 m7 _ _ _ ls h (lv_sub hl [0, 1, 2, 3] rfl) hw
      · replace hw := hw.2 hc
        refine lv_iload B.1.1 B.1.2.1 dX5_put_118 (lv_at hl 2 rfl) ?_
        refine lv_aload_n B.1.1 B.1.2.1 dX5_put_120 rfl (lv_at hl 0 rfl) ?_
        obtain ⟨hok, hw⟩ := hw
        refine q_getR B h (ci := 5) (j := 9) (code := 169) rfl inT_5 (by decide) kF_RX5_31 rfl rfl rfl (by decide) dX5_put_121 hok.1 hok.2 ?_
        obtain ⟨o3, hoo3⟩ : ∃ z, z = gR S 169 c0 := ⟨_, rfl⟩
        rw [← hoo3]
        replace hw := hw o3 hoo3
        refine lv_iload B.1.1 B.1.2.1 dX5_put_124 (lv_at hl 3 rfl) ?_
        obtain ⟨q3, hn, hw⟩ := hw
        subst hn
        replace hl : lv_has ls 8 [(0, .ref c0), (3, .int c3), (6, .int m6), (7, .int m7)] := hl
        obtain ⟨hok, hin9, hw⟩ := hw
        refine q_iald B h dX5_put_126 hok.1 hok.2 hin9 ?_
        refine lv_iload_n B.1.1 B.1.2.1 dX5_put_127 rfl (lv_at hl 1 rfl) ?_
        refine lv_icmp_ne (tgt := 135) B.1.1 B.1.2.1 dX5_put_128 (by decide) (fun hc => ?_) (fun hc => ?_)
        · replace hw := hw.1 hc
          refine lv_iconst (v := (0 : Int32)) B.1.1 B.1.2.1 dX5_put_135 (by decide) ?_
          refine lv_iadd B.1.1 B.1.2.1 dX5_put_136 ?_
          refine lv_istore (i := 6) (lv' := [(6, .int (m6 + (0 : Int32))), (0, .ref c0), (3, .int c3), (7, .int m7)]) B.1.1 B.1.2.1 dX5_put_137 hl (by decide) rfl (fun ls hl9 => ?_)
          replace hl := hl9
          clear hl9
          refine lv_iinc (i := 7) (v := (m7 + (1 : Int32))) (lv' := [(7, .int (m7 + (1 : Int32))), (6, .int (m6 + (0 : Int32))), (0, .ref c0), (3, .int c3)]) B.1.1 B.1.2.1 dX5_put_139 hl (k := 3) rfl rfl (by decide) rfl (fun ls hl9 => ?_)
          replace hl := hl9
          clear hl9
          refine lv_goto (tgt := 111) B.1.1 B.1.2.1 dX5_put_142 (by decide) ?_
          exact ih (m6 + (0 : Int32)) (m7 + (1 : Int32)) _ _ _ ls h (lv_sub hl [2, 3, 1, 0] rfl) hw hk
        · replace hw := hw.2 hc
          refine lv_iconst (v := (1 : Int32)) B.1.1 B.1.2.1 dX5_put_131 (by decide) ?_
          refine lv_goto (tgt := 136) B.1.1 B.1.2.1 dX5_put_132 (by decide) ?_
          refine lv_iadd B.1.1 B.1.2.1 dX5_put_136 ?_
          refine lv_istore (i := 6) (lv' := [(6, .int (m6 + (1 : Int32))), (0, .ref c0), (3, .int c3), (7, .int m7)]) B.1.1 B.1.2.1 dX5_put_137 hl (by decide) rfl (fun ls hl9 => ?_)
          replace hl := hl9
          clear hl9
          refine lv_iinc (i := 7) (v := (m7 + (1 : Int32))) (lv' := [(7, .int (m7 + (1 : Int32))), (6, .int (m6 + (1 : Int32))), (0, .ref c0), (3, .int c3)]) B.1.1 B.1.2.1 dX5_put_139 hl (k := 3) rfl rfl (by decide) rfl (fun ls hl9 => ?_)
          replace hl := hl9
          clear hl9
          refine lv_goto (tgt := 111) B.1.1 B.1.2.1 dX5_put_142 (by decide) ?_
          exact ih (m6 + (1 : Int32)) (m7 + (1 : Int32)) _ _ _ ls h (lv_sub hl [2, 3, 1, 0] rfl) hw hk
  have J84 : ∀ (v0 : Nat) (v3 : Int32) (v5 : Int32) (t0 : Nat) (S : HS) (H : Heap) (locs : List Loc) (ls : Array Slot), Hx D cs lo s S H locs → lv_has ls 8 [(0, .ref v0), (3, .int v3), (5, .int v5)] → wX5_put_J84 v0 v3 v5 t0 S Q → W p l e ({ frames := 4, cells := 0, slots := 0, locals := 89 } : Room) s m [.ref a0, .int x1, .int x2, .int x3].toArray below meth c H locs 0 0 (MQ below (va_Qi Q (fun S' t => hp D cs lo S' t.heap) (fun q => lo ≤ q)) [.ref a0, .int x1, .int x2, .int x3].toArray s 0 0 (fun q => lo ≤ q)) (F0 m 84 ls [.ref t0]) := by
    intro v0 v3 v5 t0 S H locs ls h hl hw
    refine lv_iconst (v := (2 : Int32)) B.1.1 B.1.2.1 dX5_put_84 (by decide) ?_
    refine lv_goto (tgt := 89) B.1.1 B.1.2.1 dX5_put_85 (by decide) ?_
    obtain ⟨hok, hw⟩ := hw
    refine q_callIV B h (met_X5_fails l t0 (2 : Int32)) (CB B 1 kC_X5_fails kI_RX5 kM_RX5_91 hd_X5_fails ⟨Nat.le_of_ble_eq_true rfl, Nat.le_of_ble_eq_true rfl⟩) kO_X5_fails kV_X5_fails (ci := 5) rfl (by decide) hok.1 hok.2 (rest := []) rfl rfl hl.1 (Nat.le_of_ble_eq_true rfl) dX5_put_89 ⟨Nat.le_of_ble_eq_true rfl, Nat.le_of_ble_eq_true rfl⟩ hw (fun r2 S2 H locs hw9 h9 => ?_)
    replace hw := hw9
    clear hw9
    replace h := h9
    clear h9
    refine lv_if_eq (tgt := 97) B.1.1 B.1.2.1 dX5_put_92 (by decide) (fun hc => ?_) (fun hc => ?_)
    · replace hw := hw.1 hc
      refine lv_aload_n B.1.1 B.1.2.1 dX5_put_97 rfl (lv_at hl 0 rfl) ?_
      obtain ⟨hok, hw⟩ := hw
      refine q_getR B h (ci := 5) (j := 9) (code := 169) rfl inT_5 (by decide) kF_RX5_31 rfl rfl rfl (by decide) dX5_put_98 hok.1 hok.2 ?_
      obtain ⟨o2, hoo2⟩ : ∃ z, z = gR S2 169 v0 := ⟨_, rfl⟩
      rw [← hoo2]
      replace hw := hw o2 hoo2
      refine lv_iload B.1.1 B.1.2.1 dX5_put_101 (lv_at hl 2 rfl) ?_
      refine lv_iload_n B.1.1 B.1.2.1 dX5_put_103 rfl (lv_at hl 1 rfl) ?_
      obtain ⟨q2, hn, hw⟩ := hw
      subst hn
      replace hl : lv_has ls 8 [(0, .ref v0), (3, .int v3), (5, .int v5)] := hl
      obtain ⟨hok, hin9, hw⟩ := hw
      refine q_iast B h dX5_put_104 hok.1 hok.2 hin9 (fun H locs h9 => ?_)
      obtain ⟨S3, hS3, hh⟩ : ∃ z, z = sA S2 q2 v5.toNatClampNeg v3 ∧ Hx D cs lo s z H _ := ⟨_, rfl, h9⟩
      clear h9
      replace h := hh
      clear hh
      replace hw := hw S3 hS3
      refine lv_iconst (v := (0 : Int32)) B.1.1 B.1.2.1 dX5_put_105 (by decide) ?_
      refine lv_istore (i := 6) (lv' := [(6, .int (0 : Int32)), (0, .ref v0), (3, .int v3), (5, .int v5)]) B.1.1 B.1.2.1 dX5_put_106 hl (by decide) rfl (fun ls hl9 => ?_)
      replace hl := hl9
      clear hl9
      refine lv_iconst (v := (0 : Int32)) B.1.1 B.1.2.1 dX5_put_108 (by decide) ?_
      refine lv_istore (i := 7) (lv' := [(7, .int (0 : Int32)), (6, .int (0 : Int32)), (0, .ref v0), (3, .int v3), (5, .int v5)]) B.1.1 B.1.2.1 dX5_put_109 hl (by decide) rfl (fun ls hl9 => ?_)
      replace hl := hl9
      clear hl9
      obtain ⟨n1, hw⟩ := hw
      refine L111 v0 v3 _ n1 (0 : Int32) (0 : Int32) _ _ _ ls h (lv_sub hl [2, 3, 1, 0] rfl) hw (fun u1 u2 S4 H locs ls h9 hl9 hw9 => ?_)
      replace hw := hw9
      clear hw9
      replace h := h9
      clear h9
      replace hl := hl9
      clear hl9
      refine lv_iload B.1.1 B.1.2.1 dX5_put_145 (lv_at hl 2 rfl) ?_
      exact q_iret B hr hlk h hw dX5_put_147 (Nat.le_of_ble_eq_true rfl) (Nat.le_of_ble_eq_true rfl)
    · replace hw := hw.2 hc
      refine lv_iconst (v := (0 : Int32)) B.1.1 B.1.2.1 dX5_put_95 (by decide) ?_
      exact q_iret B hr hlk h hw dX5_put_96 (Nat.le_of_ble_eq_true rfl) (Nat.le_of_ble_eq_true rfl)
  have J38 : ∀ (v0 : Nat) (v3 : Int32) (v4 : Int32) (t0 : Int32) (S : HS) (H : Heap) (locs : List Loc) (ls : Array Slot), Hx D cs lo s S H locs → lv_has ls 8 [(0, .ref v0), (3, .int v3), (4, .int v4)] → wX5_put_J38 v0 v3 v4 t0 S Q → W p l e ({ frames := 4, cells := 0, slots := 0, locals := 89 } : Room) s m [.ref a0, .int x1, .int x2, .int x3].toArray below meth c H locs 0 0 (MQ below (va_Qi Q (fun S' t => hp D cs lo S' t.heap) (fun q => lo ≤ q)) [.ref a0, .int x1, .int x2, .int x3].toArray s 0 0 (fun q => lo ≤ q)) (F0 m 38 ls [.int t0]) := by
    intro v0 v3 v4 t0 S H locs ls h hl hw
    refine lv_istore (i := 5) (lv' := [(5, .int t0), (0, .ref v0), (3, .int v3), (4, .int v4)]) B.1.1 B.1.2.1 dX5_put_38 hl (by decide) rfl (fun ls hl9 => ?_)
    replace hl := hl9
    clear hl9
    refine lv_aload_n B.1.1 B.1.2.1 dX5_put_40 rfl (lv_at hl 1 rfl) ?_
    refine lv_iload B.1.1 B.1.2.1 dX5_put_41 (lv_at hl 3 rfl) ?_
    refine lv_if_ne (tgt := 50) B.1.1 B.1.2.1 dX5_put_43 (by decide) (fun hc => ?_) (fun hc => ?_)
    · replace hw := hw.1 hc
      refine lv_aload_n B.1.1 B.1.2.1 dX5_put_50 rfl (lv_at hl 1 rfl) ?_
      obtain ⟨hok, hw⟩ := hw
      refine q_getR B h (ci := 5) (j := 9) (code := 169) rfl inT_5 (by decide) kF_RX5_31 rfl rfl rfl (by decide) dX5_put_51 hok.1 hok.2 ?_
      obtain ⟨o1, hoo1⟩ : ∃ z, z = gR S 169 v0 := ⟨_, rfl⟩
      rw [← hoo1]
      replace hw := hw o1 hoo1
      refine lv_iload B.1.1 B.1.2.1 dX5_put_54 (lv_at hl 0 rfl) ?_
      obtain ⟨q1, hn, hw⟩ := hw
      subst hn
      replace hl : lv_has ls 8 [(5, .int t0), (0, .ref v0), (3, .int v3), (4, .int v4)] := hl
      obtain ⟨hok, hin9, hw⟩ := hw
      refine q_iald B h dX5_put_56 hok.1 hok.2 hin9 ?_
      refine lv_iconst (v := (-1 : Int32)) B.1.1 B.1.2.1 dX5_put_57 (by decide) ?_
      refine lv_icmp_ne (tgt := 84) B.1.1 B.1.2.1 dX5_put_58 (by decide) (fun hc => ?_) (fun hc => ?_)
      · replace hw := hw.1 hc
        exact J84 v0 v3 t0 v0 _ _ _ ls h (lv_sub hl [1, 2, 0] rfl) hw
      · replace hw := hw.2 hc
        refine lv_aload_n B.1.1 B.1.2.1 dX5_put_61 rfl (lv_at hl 1 rfl) ?_
        refine lv_iload B.1.1 B.1.2.1 dX5_put_62 (lv_at hl 0 rfl) ?_
        obtain ⟨hok, hw⟩ := hw
        refine q_callIV B h (met_X5_isPrinting l v0 t0) (CB B 1 kC_X5_isPrinting kI_RX5 kM_RX5_128 hd_X5_isPrinting ⟨Nat.le_of_ble_eq_true rfl, Nat.le_of_ble_eq_true rfl⟩) kO_X5_isPrinting kV_X5_isPrinting (ci := 5) rfl (by decide) hok.1 hok.2 (rest := [.ref v0]) rfl rfl hl.1 (Nat.le_of_ble_eq_true rfl) dX5_put_64 ⟨Nat.le_of_ble_eq_true rfl, Nat.le_of_ble_eq_true rfl⟩ hw (fun r3 S5 H locs hw9 h9 => ?_)
        replace hw := hw9
        clear hw9
        replace h := h9
        clear h9
        refine lv_if_ne (tgt := 84) B.1.1 B.1.2.1 dX5_put_67 (by decide) (fun hc => ?_) (fun hc => ?_)
        · replace hw := hw.1 hc
          exact J84 v0 v3 t0 v0 _ _ _ ls h (lv_sub hl [1, 2, 0] rfl) hw
        · replace hw := hw.2 hc
          refine lv_aload_n B.1.1 B.1.2.1 dX5_put_70 rfl (lv_at hl 1 rfl) ?_
          obtain ⟨hok, hw⟩ := hw
          refine q_getR B h (ci := 5) (j := 10) (code := 170) rfl inT_5 (by decide) kF_RX5_34 rfl rfl rfl (by decide) dX5_put_71 hok.1 hok.2 ?_
          obtain ⟨o4, hoo4⟩ : ∃ z, z = gR S5 170 v0 := ⟨_, rfl⟩
          rw [← hoo4]
          replace hw := hw o4 hoo4
          refine lv_iload B.1.1 B.1.2.1 dX5_put_74 (lv_at hl 0 rfl) ?_
          obtain ⟨q4, hn, hw⟩ := hw
          subst hn
          replace hl : lv_has ls 8 [(5, .int t0), (0, .ref v0), (3, .int v3), (4, .int v4)] := hl
          obtain ⟨hok, hin9, hw⟩ := hw
          refine q_iald B h dX5_put_76 hok.1 hok.2 hin9 ?_
          refine lv_aload_n B.1.1 B.1.2.1 dX5_put_77 rfl (lv_at hl 1 rfl) ?_
          obtain ⟨hok, hw⟩ := hw
          refine q_getI B h (ci := 5) (j := 0) (code := 160) rfl inT_5 (by decide) kF_RX5_131 rfl rfl rfl (by decide) dX5_put_78 hok.1 hok.2 ?_
          refine lv_icmp_le (tgt := 88) B.1.1 B.1.2.1 dX5_put_81 (by decide) (fun hc => ?_) (fun hc => ?_)
          · replace hw := hw.1 hc
            refine lv_iconst (v := (0 : Int32)) B.1.1 B.1.2.1 dX5_put_88 (by decide) ?_
            obtain ⟨hok, hw⟩ := hw
            refine q_callIV B h (met_X5_fails l v0 (0 : Int32)) (CB B 1 kC_X5_fails kI_RX5 kM_RX5_91 hd_X5_fails ⟨Nat.le_of_ble_eq_true rfl, Nat.le_of_ble_eq_true rfl⟩) kO_X5_fails kV_X5_fails (ci := 5) rfl (by decide) hok.1 hok.2 (rest := []) rfl rfl hl.1 (Nat.le_of_ble_eq_true rfl) dX5_put_89 ⟨Nat.le_of_ble_eq_true rfl, Nat.le_of_ble_eq_true rfl⟩ hw (fun r4 S6 H locs hw9 h9 => ?_)
            replace hw := hw9
            clear hw9
            replace h := h9
            clear h9
            refine lv_if_eq (tgt := 97) B.1.1 B.1.2.1 dX5_put_92 (by decide) (fun hc => ?_) (fun hc => ?_)
            · replace hw := hw.1 hc
              refine lv_aload_n B.1.1 B.1.2.1 dX5_put_97 rfl (lv_at hl 1 rfl) ?_
              obtain ⟨hok, hw⟩ := hw
              refine q_getR B h (ci := 5) (j := 9) (code := 169) rfl inT_5 (by decide) kF_RX5_31 rfl rfl rfl (by decide) dX5_put_98 hok.1 hok.2 ?_
              obtain ⟨o5, hoo5⟩ : ∃ z, z = gR S6 169 v0 := ⟨_, rfl⟩
              rw [← hoo5]
              replace hw := hw o5 hoo5
              refine lv_iload B.1.1 B.1.2.1 dX5_put_101 (lv_at hl 0 rfl) ?_
              refine lv_iload_n B.1.1 B.1.2.1 dX5_put_103 rfl (lv_at hl 2 rfl) ?_
              obtain ⟨q5, hn, hw⟩ := hw
              subst hn
              replace hl : lv_has ls 8 [(5, .int t0), (0, .ref v0), (3, .int v3), (4, .int v4)] := hl
              obtain ⟨hok, hin9, hw⟩ := hw
              refine q_iast B h dX5_put_104 hok.1 hok.2 hin9 (fun H locs h9 => ?_)
              obtain ⟨S7, hS7, hh⟩ : ∃ z, z = sA S6 q5 t0.toNatClampNeg v3 ∧ Hx D cs lo s z H _ := ⟨_, rfl, h9⟩
              clear h9
              replace h := hh
              clear hh
              replace hw := hw S7 hS7
              refine lv_iconst (v := (0 : Int32)) B.1.1 B.1.2.1 dX5_put_105 (by decide) ?_
              refine lv_istore (i := 6) (lv' := [(6, .int (0 : Int32)), (5, .int t0), (0, .ref v0), (3, .int v3), (4, .int v4)]) B.1.1 B.1.2.1 dX5_put_106 hl (by decide) rfl (fun ls hl9 => ?_)
              replace hl := hl9
              clear hl9
              refine lv_iconst (v := (0 : Int32)) B.1.1 B.1.2.1 dX5_put_108 (by decide) ?_
              refine lv_istore (i := 7) (lv' := [(7, .int (0 : Int32)), (6, .int (0 : Int32)), (5, .int t0), (0, .ref v0), (3, .int v3), (4, .int v4)]) B.1.1 B.1.2.1 dX5_put_109 hl (by decide) rfl (fun ls hl9 => ?_)
              replace hl := hl9
              clear hl9
              obtain ⟨n2, hw⟩ := hw
              refine L111 v0 v3 _ n2 (0 : Int32) (0 : Int32) _ _ _ ls h (lv_sub hl [3, 4, 1, 0] rfl) hw (fun u3 u4 S8 H locs ls h9 hl9 hw9 => ?_)
              replace hw := hw9
              clear hw9
              replace h := h9
              clear h9
              replace hl := hl9
              clear hl9
              refine lv_iload B.1.1 B.1.2.1 dX5_put_145 (lv_at hl 2 rfl) ?_
              exact q_iret B hr hlk h hw dX5_put_147 (Nat.le_of_ble_eq_true rfl) (Nat.le_of_ble_eq_true rfl)
            · replace hw := hw.2 hc
              refine lv_iconst (v := (0 : Int32)) B.1.1 B.1.2.1 dX5_put_95 (by decide) ?_
              exact q_iret B hr hlk h hw dX5_put_96 (Nat.le_of_ble_eq_true rfl) (Nat.le_of_ble_eq_true rfl)
          · replace hw := hw.2 hc
            exact J84 v0 v3 t0 v0 _ _ _ ls h (lv_sub hl [1, 2, 0] rfl) hw
    · replace hw := hw.2 hc
      refine lv_iconst (v := (1 : Int32)) B.1.1 B.1.2.1 dX5_put_46 (by decide) ?_
      refine lv_goto (tgt := 89) B.1.1 B.1.2.1 dX5_put_47 (by decide) ?_
      obtain ⟨hok, hw⟩ := hw
      refine q_callIV B h (met_X5_fails l v0 (1 : Int32)) (CB B 1 kC_X5_fails kI_RX5 kM_RX5_91 hd_X5_fails ⟨Nat.le_of_ble_eq_true rfl, Nat.le_of_ble_eq_true rfl⟩) kO_X5_fails kV_X5_fails (ci := 5) rfl (by decide) hok.1 hok.2 (rest := []) rfl rfl hl.1 (Nat.le_of_ble_eq_true rfl) dX5_put_89 ⟨Nat.le_of_ble_eq_true rfl, Nat.le_of_ble_eq_true rfl⟩ hw (fun r5 S9 H locs hw9 h9 => ?_)
      replace hw := hw9
      clear hw9
      replace h := h9
      clear h9
      refine lv_if_eq (tgt := 97) B.1.1 B.1.2.1 dX5_put_92 (by decide) (fun hc => ?_) (fun hc => ?_)
      · replace hw := hw.1 hc
        refine lv_aload_n B.1.1 B.1.2.1 dX5_put_97 rfl (lv_at hl 1 rfl) ?_
        obtain ⟨hok, hw⟩ := hw
        refine q_getR B h (ci := 5) (j := 9) (code := 169) rfl inT_5 (by decide) kF_RX5_31 rfl rfl rfl (by decide) dX5_put_98 hok.1 hok.2 ?_
        obtain ⟨o6, hoo6⟩ : ∃ z, z = gR S9 169 v0 := ⟨_, rfl⟩
        rw [← hoo6]
        replace hw := hw o6 hoo6
        refine lv_iload B.1.1 B.1.2.1 dX5_put_101 (lv_at hl 0 rfl) ?_
        refine lv_iload_n B.1.1 B.1.2.1 dX5_put_103 rfl (lv_at hl 2 rfl) ?_
        obtain ⟨q6, hn, hw⟩ := hw
        subst hn
        replace hl : lv_has ls 8 [(5, .int t0), (0, .ref v0), (3, .int v3), (4, .int v4)] := hl
        obtain ⟨hok, hin9, hw⟩ := hw
        refine q_iast B h dX5_put_104 hok.1 hok.2 hin9 (fun H locs h9 => ?_)
        obtain ⟨S10, hS10, hh⟩ : ∃ z, z = sA S9 q6 t0.toNatClampNeg v3 ∧ Hx D cs lo s z H _ := ⟨_, rfl, h9⟩
        clear h9
        replace h := hh
        clear hh
        replace hw := hw S10 hS10
        refine lv_iconst (v := (0 : Int32)) B.1.1 B.1.2.1 dX5_put_105 (by decide) ?_
        refine lv_istore (i := 6) (lv' := [(6, .int (0 : Int32)), (5, .int t0), (0, .ref v0), (3, .int v3), (4, .int v4)]) B.1.1 B.1.2.1 dX5_put_106 hl (by decide) rfl (fun ls hl9 => ?_)
        replace hl := hl9
        clear hl9
        refine lv_iconst (v := (0 : Int32)) B.1.1 B.1.2.1 dX5_put_108 (by decide) ?_
        refine lv_istore (i := 7) (lv' := [(7, .int (0 : Int32)), (6, .int (0 : Int32)), (5, .int t0), (0, .ref v0), (3, .int v3), (4, .int v4)]) B.1.1 B.1.2.1 dX5_put_109 hl (by decide) rfl (fun ls hl9 => ?_)
        replace hl := hl9
        clear hl9
        obtain ⟨n3, hw⟩ := hw
        refine L111 v0 v3 _ n3 (0 : Int32) (0 : Int32) _ _ _ ls h (lv_sub hl [3, 4, 1, 0] rfl) hw (fun u5 u6 S11 H locs ls h9 hl9 hw9 => ?_)
        replace hw := hw9
        clear hw9
        replace h := h9
        clear h9
        replace hl := hl9
        clear hl9
        refine lv_iload B.1.1 B.1.2.1 dX5_put_145 (lv_at hl 2 rfl) ?_
        exact q_iret B hr hlk h hw dX5_put_147 (Nat.le_of_ble_eq_true rfl) (Nat.le_of_ble_eq_true rfl)
      · replace hw := hw.2 hc
        refine lv_iconst (v := (0 : Int32)) B.1.1 B.1.2.1 dX5_put_95 (by decide) ?_
        exact q_iret B hr hlk h hw dX5_put_96 (Nat.le_of_ble_eq_true rfl) (Nat.le_of_ble_eq_true rfl)
  have J21 : ∀ (v0 : Nat) (v1 : Int32) (v2 : Int32) (v3 : Int32) (t0 : Int32) (S : HS) (H : Heap) (locs : List Loc) (ls : Array Slot), Hx D cs lo s S H locs → lv_has ls 8 [(0, .ref v0), (1, .int v1), (2, .int v2), (3, .int v3)] → wX5_put_J21 v0 v1 v2 v3 t0 S Q → W p l e ({ frames := 4, cells := 0, slots := 0, locals := 89 } : Room) s m [.ref a0, .int x1, .int x2, .int x3].toArray below meth c H locs 0 0 (MQ below (va_Qi Q (fun S' t => hp D cs lo S' t.heap) (fun q => lo ≤ q)) [.ref a0, .int x1, .int x2, .int x3].toArray s 0 0 (fun q => lo ≤ q)) (F0 m 21 ls [.int t0]) := by
    intro v0 v1 v2 v3 t0 S H locs ls h hl hw
    refine lv_istore (i := 4) (lv' := [(4, .int t0), (0, .ref v0), (1, .int v1), (2, .int v2), (3, .int v3)]) B.1.1 B.1.2.1 dX5_put_21 hl (by decide) rfl (fun ls hl9 => ?_)
    replace hl := hl9
    clear hl9
    refine lv_iload B.1.1 B.1.2.1 dX5_put_23 (lv_at hl 0 rfl) ?_
    refine lv_if_eq (tgt := 37) B.1.1 B.1.2.1 dX5_put_25 (by decide) (fun hc => ?_) (fun hc => ?_)
    · replace hw := hw.1 hc
      refine lv_iconst (v := (0 : Int32)) B.1.1 B.1.2.1 dX5_put_37 (by decide) ?_
      exact J38 v0 v3 t0 (0 : Int32) _ _ _ ls h (lv_sub hl [1, 4, 0] rfl) hw
    · replace hw := hw.2 hc
      refine lv_bipush (v := (16 : Int32)) B.1.1 B.1.2.1 dX5_put_28 (by decide) ?_
      refine lv_iload_n B.1.1 B.1.2.1 dX5_put_30 rfl (lv_at hl 2 rfl) ?_
      refine lv_imul B.1.1 B.1.2.1 dX5_put_31 ?_
      refine lv_iload_n B.1.1 B.1.2.1 dX5_put_32 rfl (lv_at hl 3 rfl) ?_
      refine lv_iadd B.1.1 B.1.2.1 dX5_put_33 ?_
      refine lv_goto (tgt := 38) B.1.1 B.1.2.1 dX5_put_34 (by decide) ?_
      exact J38 v0 v3 t0 (((16 : Int32) * v1) + v2) _ _ _ ls h (lv_sub hl [1, 4, 0] rfl) hw
  have J20 : ∀ (v0 : Nat) (v1 : Int32) (v2 : Int32) (v3 : Int32) (S : HS) (H : Heap) (locs : List Loc) (ls : Array Slot), Hx D cs lo s S H locs → lv_has ls 8 [(0, .ref v0), (1, .int v1), (2, .int v2), (3, .int v3)] → wX5_put_J20 v0 v1 v2 v3 S Q → W p l e ({ frames := 4, cells := 0, slots := 0, locals := 89 } : Room) s m [.ref a0, .int x1, .int x2, .int x3].toArray below meth c H locs 0 0 (MQ below (va_Qi Q (fun S' t => hp D cs lo S' t.heap) (fun q => lo ≤ q)) [.ref a0, .int x1, .int x2, .int x3].toArray s 0 0 (fun q => lo ≤ q)) (F0 m 20 ls []) := by
    intro v0 v1 v2 v3 S H locs ls h hl hw
    refine lv_iconst (v := (0 : Int32)) B.1.1 B.1.2.1 dX5_put_20 (by decide) ?_
    exact J21 v0 v1 v2 v3 (0 : Int32) _ _ _ ls h (lv_sub hl [0, 1, 2, 3] rfl) hw
  intro h hl hw
  replace hl : lv_has ls 8 [(0, .ref a0), (1, .int x1), (2, .int x2), (3, .int x3)] := hl
  refine lv_aload_n B.1.1 B.1.2.1 dX5_put_0 rfl (lv_at hl 0 rfl) ?_
  refine lv_iload_n B.1.1 B.1.2.1 dX5_put_1 rfl (lv_at hl 1 rfl) ?_
  refine lv_iload_n B.1.1 B.1.2.1 dX5_put_2 rfl (lv_at hl 2 rfl) ?_
  obtain ⟨hok, hw⟩ := hw
  refine q_callIV B h (met_X5_isStrip l a0 x1 x2) (CB B 2 kC_X5_isStrip kI_RX5 kM_RX5_104 hd_X5_isStrip ⟨Nat.le_of_ble_eq_true rfl, Nat.le_of_ble_eq_true rfl⟩) kO_X5_isStrip kV_X5_isStrip (ci := 5) rfl (by decide) hok.1 hok.2 (rest := []) rfl rfl hl.1 (Nat.le_of_ble_eq_true rfl) dX5_put_3 ⟨Nat.le_of_ble_eq_true rfl, Nat.le_of_ble_eq_true rfl⟩ hw (fun r1 S1 H locs hw9 h9 => ?_)
  replace hw := hw9
  clear hw9
  replace h := h9
  clear h9
  refine lv_if_eq (tgt := 20) B.1.1 B.1.2.1 dX5_put_6 (by decide) (fun hc => ?_) (fun hc => ?_)
  · replace hw := hw.1 hc
    exact J20 a0 x1 x2 x3 _ _ _ ls h (lv_sub hl [0, 1, 2, 3] rfl) hw
  · replace hw := hw.2 hc
    refine lv_iload_n B.1.1 B.1.2.1 dX5_put_9 rfl (lv_at hl 3 rfl) ?_
    refine q_callIS B h (met_X5_isPrinter l x3) (CB B 1 kC_X5_isPrinter kI_RX5 kM_RX5_112 hd_X5_isPrinter ⟨Nat.le_of_ble_eq_true rfl, Nat.le_of_ble_eq_true rfl⟩) kS_X5_isPrinter (rest := []) rfl rfl hl.1 (Nat.le_of_ble_eq_true rfl) dX5_put_10 ⟨Nat.le_of_ble_eq_true rfl, Nat.le_of_ble_eq_true rfl⟩ hw (fun r6 S12 H locs hw9 h9 => ?_)
    replace hw := hw9
    clear hw9
    replace h := h9
    clear h9
    refine lv_if_eq (tgt := 20) B.1.1 B.1.2.1 dX5_put_13 (by decide) (fun hc => ?_) (fun hc => ?_)
    · replace hw := hw.1 hc
      exact J20 a0 x1 x2 x3 _ _ _ ls h (lv_sub hl [0, 1, 2, 3] rfl) hw
    · replace hw := hw.2 hc
      refine lv_iconst (v := (1 : Int32)) B.1.1 B.1.2.1 dX5_put_16 (by decide) ?_
      refine lv_goto (tgt := 21) B.1.1 B.1.2.1 dX5_put_17 (by decide) ?_
      exact J21 a0 x1 x2 x3 (1 : Int32) _ _ _ ls h (lv_sub hl [0, 1, 2, 3] rfl) hw
set_option maxHeartbeats 4000000 in
set_option maxRecDepth 100000 in
theorem met_X5_pass (l : Launch) (a0 : Nat) (x1 : Int32) : MI l yX5_pass cX5_pass 4 (some .int) 7 164 0 0 [.ref a0, .int x1] (wX5_pass a0 x1) := by
  refine MI.of (by decide) (Nat.le_of_ble_eq_true rfl) ?_
  intro p e s m below meth c D cs lo S Q ls B hr hlk hin
  have L29 : ∀ (c0 : Nat) (c1 : Int32) (K : Int32 → Int32 → HS → Prop) (n : Nat) (m2 : Int32) (m3 : Int32) (S : HS) (H : Heap) (locs : List Loc) (ls : Array Slot), Hx D cs lo s S H locs → lv_has ls 4 [(0, .ref c0), (1, .int c1), (2, .int m2), (3, .int m3)] → wX5_pass_L29 c0 c1 n m2 m3 S K → (∀ (m2 : Int32) (m3 : Int32) (S : HS) (H : Heap) (locs : List Loc) (ls : Array Slot), Hx D cs lo s S H locs → lv_has ls 4 [(0, .ref c0), (1, .int c1), (2, .int m2), (3, .int m3)] → K m2 m3 S → W p l e ({ frames := 7, cells := 0, slots := 0, locals := 164 } : Room) s m [.ref a0, .int x1].toArray below meth c H locs 0 0 (MQ below (va_Qi Q (fun S' t => hp D cs lo S' t.heap) (fun q => lo ≤ q)) [.ref a0, .int x1].toArray s 0 0 (fun q => lo ≤ q)) (F0 m 47 ls [])) → W p l e ({ frames := 7, cells := 0, slots := 0, locals := 164 } : Room) s m [.ref a0, .int x1].toArray below meth c H locs 0 0 (MQ below (va_Qi Q (fun S' t => hp D cs lo S' t.heap) (fun q => lo ≤ q)) [.ref a0, .int x1].toArray s 0 0 (fun q => lo ≤ q)) (F0 m 29 ls []) := by
    intro c0 c1 K n
    induction n with
    | zero => intro m2 m3 S H locs ls h hl hw hk; exact False.elim hw
    | succ n ih =>
      intro m2 m3 S H locs ls h hl hw hk
      refine lv_iload_n B.1.1 B.1.2.1 dX5_pass_29 rfl (lv_at hl 3 rfl) ?_
      refine lv_iload_n B.1.1 B.1.2.1 dX5_pass_30 rfl (lv_at hl 1 rfl) ?_
      refine lv_icmp_ge (tgt := 47) B.1.1 B.1.2.1 dX5_pass_31 (by decide) (fun hc => ?_) (fun hc => ?_)
      · replace hw := hw.1 hc
        exact hk m2 m3 _ _ _ ls h (lv_sub hl [0, 1, 2, 3] rfl) hw
      · replace hw := hw.2 hc
        refine lv_iload_n B.1.1 B.1.2.1 dX5_pass_34 rfl (lv_at hl 2 rfl) ?_
        refine lv_aload_n B.1.1 B.1.2.1 dX5_pass_35 rfl (lv_at hl 0 rfl) ?_
        obtain ⟨hok, hw⟩ := hw
        refine q_callIV B h (met_X5_goesOn l c0) (CB B 0 kC_X5_goesOn kI_RX5 kM_RX5_144 hd_X5_goesOn ⟨Nat.le_of_ble_eq_true rfl, Nat.le_of_ble_eq_true rfl⟩) kO_X5_goesOn kV_X5_goesOn (ci := 5) rfl (by decide) hok.1 hok.2 (rest := [.int m2]) rfl rfl hl.1 (Nat.le_of_ble_eq_true rfl) dX5_pass_36 ⟨Nat.le_of_ble_eq_true rfl, Nat.le_of_ble_eq_true rfl⟩ hw (fun r3 S3 H locs hw9 h9 => ?_)
        replace hw := hw9
        clear hw9
        replace h := h9
        clear h9
        refine lv_iadd B.1.1 B.1.2.1 dX5_pass_39 ?_
        refine lv_istore_n (i := 2) (lv' := [(2, .int (m2 + r3)), (0, .ref c0), (1, .int c1), (3, .int m3)]) B.1.1 B.1.2.1 dX5_pass_40 rfl hl (by decide) rfl (fun ls hl9 => ?_)
        replace hl := hl9
        clear hl9
        refine lv_iinc (i := 3) (v := (m3 + (1 : Int32))) (lv' := [(3, .int (m3 + (1 : Int32))), (2, .int (m2 + r3)), (0, .ref c0), (1, .int c1)]) B.1.1 B.1.2.1 dX5_pass_41 hl (k := 3) rfl rfl (by decide) rfl (fun ls hl9 => ?_)
        replace hl := hl9
        clear hl9
        refine lv_goto (tgt := 29) B.1.1 B.1.2.1 dX5_pass_44 (by decide) ?_
        exact ih (m2 + r3) (m3 + (1 : Int32)) _ _ _ ls h (lv_sub hl [2, 3, 1, 0] rfl) hw hk
  intro h hl hw
  replace hl : lv_has ls 4 [(0, .ref a0), (1, .int x1)] := hl
  refine lv_aload_n B.1.1 B.1.2.1 dX5_pass_0 rfl (lv_at hl 0 rfl) ?_
  refine lv_iload_n B.1.1 B.1.2.1 dX5_pass_1 rfl (lv_at hl 1 rfl) ?_
  refine lv_iconst (v := (1 : Int32)) B.1.1 B.1.2.1 dX5_pass_2 (by decide) ?_
  refine lv_sipush (v := (200 : Int32)) B.1.1 B.1.2.1 dX5_pass_3 (by decide) ?_
  refine q_callIS B h (met_X5_isIn l x1 (1 : Int32) (200 : Int32)) (CB B 3 kC_X5_isIn kI_RX5 kM_RX5_69 hd_X5_isIn ⟨Nat.le_of_ble_eq_true rfl, Nat.le_of_ble_eq_true rfl⟩) kS_X5_isIn (rest := [.ref a0]) rfl rfl hl.1 (Nat.le_of_ble_eq_true rfl) dX5_pass_6 ⟨Nat.le_of_ble_eq_true rfl, Nat.le_of_ble_eq_true rfl⟩ hw (fun r1 S1 H locs hw9 h9 => ?_)
  replace hw := hw9
  clear hw9
  replace h := h9
  clear h9
  refine lv_if_eq (tgt := 16) B.1.1 B.1.2.1 dX5_pass_9 (by decide) (fun hc => ?_) (fun hc => ?_)
  · replace hw := hw.1 hc
    refine lv_iconst (v := (1 : Int32)) B.1.1 B.1.2.1 dX5_pass_16 (by decide) ?_
    obtain ⟨hok, hw⟩ := hw
    refine q_callIV B h (met_X5_fails l a0 (1 : Int32)) (CB B 1 kC_X5_fails kI_RX5 kM_RX5_91 hd_X5_fails ⟨Nat.le_of_ble_eq_true rfl, Nat.le_of_ble_eq_true rfl⟩) kO_X5_fails kV_X5_fails (ci := 5) rfl (by decide) hok.1 hok.2 (rest := []) rfl rfl hl.1 (Nat.le_of_ble_eq_true rfl) dX5_pass_17 ⟨Nat.le_of_ble_eq_true rfl, Nat.le_of_ble_eq_true rfl⟩ hw (fun r2 S2 H locs hw9 h9 => ?_)
    replace hw := hw9
    clear hw9
    replace h := h9
    clear h9
    refine lv_if_eq (tgt := 25) B.1.1 B.1.2.1 dX5_pass_20 (by decide) (fun hc => ?_) (fun hc => ?_)
    · replace hw := hw.1 hc
      refine lv_iconst (v := (0 : Int32)) B.1.1 B.1.2.1 dX5_pass_25 (by decide) ?_
      refine lv_istore_n (i := 2) (lv' := [(2, .int (0 : Int32)), (0, .ref a0), (1, .int x1)]) B.1.1 B.1.2.1 dX5_pass_26 rfl hl (by decide) rfl (fun ls hl9 => ?_)
      replace hl := hl9
      clear hl9
      refine lv_iconst (v := (0 : Int32)) B.1.1 B.1.2.1 dX5_pass_27 (by decide) ?_
      refine lv_istore_n (i := 3) (lv' := [(3, .int (0 : Int32)), (2, .int (0 : Int32)), (0, .ref a0), (1, .int x1)]) B.1.1 B.1.2.1 dX5_pass_28 rfl hl (by decide) rfl (fun ls hl9 => ?_)
      replace hl := hl9
      clear hl9
      obtain ⟨n1, hw⟩ := hw
      refine L29 a0 x1 _ n1 (0 : Int32) (0 : Int32) _ _ _ ls h (lv_sub hl [2, 3, 1, 0] rfl) hw (fun u1 u2 S4 H locs ls h9 hl9 hw9 => ?_)
      replace hw := hw9
      clear hw9
      replace h := h9
      clear h9
      replace hl := hl9
      clear hl9
      refine lv_iload_n B.1.1 B.1.2.1 dX5_pass_47 rfl (lv_at hl 2 rfl) ?_
      exact q_iret B hr hlk h hw dX5_pass_48 (Nat.le_of_ble_eq_true rfl) (Nat.le_of_ble_eq_true rfl)
    · replace hw := hw.2 hc
      refine lv_iconst (v := (0 : Int32)) B.1.1 B.1.2.1 dX5_pass_23 (by decide) ?_
      exact q_iret B hr hlk h hw dX5_pass_24 (Nat.le_of_ble_eq_true rfl) (Nat.le_of_ble_eq_true rfl)
  · replace hw := hw.2 hc
    refine lv_iconst (v := (0 : Int32)) B.1.1 B.1.2.1 dX5_pass_12 (by decide) ?_
    refine lv_goto (tgt := 17) B.1.1 B.1.2.1 dX5_pass_13 (by decide) ?_
    obtain ⟨hok, hw⟩ := hw
    refine q_callIV B h (met_X5_fails l a0 (0 : Int32)) (CB B 1 kC_X5_fails kI_RX5 kM_RX5_91 hd_X5_fails ⟨Nat.le_of_ble_eq_true rfl, Nat.le_of_ble_eq_true rfl⟩) kO_X5_fails kV_X5_fails (ci := 5) rfl (by decide) hok.1 hok.2 (rest := []) rfl rfl hl.1 (Nat.le_of_ble_eq_true rfl) dX5_pass_17 ⟨Nat.le_of_ble_eq_true rfl, Nat.le_of_ble_eq_true rfl⟩ hw (fun r4 S5 H locs hw9 h9 => ?_)
    replace hw := hw9
    clear hw9
    replace h := h9
    clear h9
    refine lv_if_eq (tgt := 25) B.1.1 B.1.2.1 dX5_pass_20 (by decide) (fun hc => ?_) (fun hc => ?_)
    · replace hw := hw.1 hc
      refine lv_iconst (v := (0 : Int32)) B.1.1 B.1.2.1 dX5_pass_25 (by decide) ?_
      refine lv_istore_n (i := 2) (lv' := [(2, .int (0 : Int32)), (0, .ref a0), (1, .int x1)]) B.1.1 B.1.2.1 dX5_pass_26 rfl hl (by decide) rfl (fun ls hl9 => ?_)
      replace hl := hl9
      clear hl9
      refine lv_iconst (v := (0 : Int32)) B.1.1 B.1.2.1 dX5_pass_27 (by decide) ?_
      refine lv_istore_n (i := 3) (lv' := [(3, .int (0 : Int32)), (2, .int (0 : Int32)), (0, .ref a0), (1, .int x1)]) B.1.1 B.1.2.1 dX5_pass_28 rfl hl (by decide) rfl (fun ls hl9 => ?_)
      replace hl := hl9
      clear hl9
      obtain ⟨n2, hw⟩ := hw
      refine L29 a0 x1 _ n2 (0 : Int32) (0 : Int32) _ _ _ ls h (lv_sub hl [2, 3, 1, 0] rfl) hw (fun u3 u4 S6 H locs ls h9 hl9 hw9 => ?_)
      replace hw := hw9
      clear hw9
      replace h := h9
      clear h9
      replace hl := hl9
      clear hl9
      refine lv_iload_n B.1.1 B.1.2.1 dX5_pass_47 rfl (lv_at hl 2 rfl) ?_
      exact q_iret B hr hlk h hw dX5_pass_48 (Nat.le_of_ble_eq_true rfl) (Nat.le_of_ble_eq_true rfl)
    · replace hw := hw.2 hc
      refine lv_iconst (v := (0 : Int32)) B.1.1 B.1.2.1 dX5_pass_23 (by decide) ?_
      exact q_iret B hr hlk h hw dX5_pass_24 (Nat.le_of_ble_eq_true rfl) (Nat.le_of_ble_eq_true rfl)
set_option maxHeartbeats 4000000 in
set_option maxRecDepth 100000 in
theorem met_X5_prints (l : Launch) (a0 : Nat) (x1 : Int32) : MI l yX5_prints cX5_prints 3 (some .int) 2 42 0 0 [.ref a0, .int x1] (wX5_prints a0 x1) := by
  refine MI.of (by decide) (Nat.le_of_ble_eq_true rfl) ?_
  intro p e s m below meth c D cs lo S Q ls B hr hlk hin
  have J13 : ∀ (v0 : Nat) (v1 : Int32) (t0 : Int32) (t1 : Nat) (S : HS) (H : Heap) (locs : List Loc) (ls : Array Slot), Hx D cs lo s S H locs → lv_has ls 3 [(0, .ref v0), (1, .int v1)] → wX5_prints_J13 v0 v1 t0 t1 S Q → W p l e ({ frames := 2, cells := 0, slots := 0, locals := 42 } : Room) s m [.ref a0, .int x1].toArray below meth c H locs 0 0 (MQ below (va_Qi Q (fun S' t => hp D cs lo S' t.heap) (fun q => lo ≤ q)) [.ref a0, .int x1].toArray s 0 0 (fun q => lo ≤ q)) (F0 m 13 ls [.int t0, .ref t1]) := by
    intro v0 v1 t0 t1 S H locs ls h hl hw
    obtain ⟨hok, hw⟩ := hw
    refine q_callIV B h (met_X5_fails l t1 t0) (CB B 1 kC_X5_fails kI_RX5 kM_RX5_91 hd_X5_fails ⟨Nat.le_of_ble_eq_true rfl, Nat.le_of_ble_eq_true rfl⟩) kO_X5_fails kV_X5_fails (ci := 5) rfl (by decide) hok.1 hok.2 (rest := []) rfl rfl hl.1 (Nat.le_of_ble_eq_true rfl) dX5_prints_13 ⟨Nat.le_of_ble_eq_true rfl, Nat.le_of_ble_eq_true rfl⟩ hw (fun r2 S2 H locs hw9 h9 => ?_)
    replace hw := hw9
    clear hw9
    replace h := h9
    clear h9
    refine lv_if_eq (tgt := 21) B.1.1 B.1.2.1 dX5_prints_16 (by decide) (fun hc => ?_) (fun hc => ?_)
    · replace hw := hw.1 hc
      refine lv_aload_n B.1.1 B.1.2.1 dX5_prints_21 rfl (lv_at hl 0 rfl) ?_
      obtain ⟨hok, hw⟩ := hw
      refine q_getR B h (ci := 5) (j := 16) (code := 176) rfl inT_5 (by decide) kF_RX5_53 rfl rfl rfl (by decide) dX5_prints_22 hok.1 hok.2 ?_
      obtain ⟨o1, hoo1⟩ : ∃ z, z = gR S2 176 v0 := ⟨_, rfl⟩
      rw [← hoo1]
      replace hw := hw o1 hoo1
      refine lv_iload_n B.1.1 B.1.2.1 dX5_prints_25 rfl (lv_at hl 1 rfl) ?_
      obtain ⟨q1, hn, hw⟩ := hw
      subst hn
      replace hl : lv_has ls 3 [(0, .ref v0), (1, .int v1)] := hl
      obtain ⟨hok, hin9, hw⟩ := hw
      refine q_iald B h dX5_prints_26 hok.1 hok.2 hin9 ?_
      refine lv_istore_n (i := 2) (lv' := [(2, .int (gA S2 q1 v1.toNatClampNeg)), (0, .ref v0), (1, .int v1)]) B.1.1 B.1.2.1 dX5_prints_27 rfl hl (by decide) rfl (fun ls hl9 => ?_)
      replace hl := hl9
      clear hl9
      refine lv_iload_n B.1.1 B.1.2.1 dX5_prints_28 rfl (lv_at hl 0 rfl) ?_
      refine lv_iconst (v := (-1 : Int32)) B.1.1 B.1.2.1 dX5_prints_29 (by decide) ?_
      refine lv_icmp_ne (tgt := 37) B.1.1 B.1.2.1 dX5_prints_30 (by decide) (fun hc => ?_) (fun hc => ?_)
      · replace hw := hw.1 hc
        refine lv_sipush (v := (1000 : Int32)) B.1.1 B.1.2.1 dX5_prints_37 (by decide) ?_
        refine lv_iload_n B.1.1 B.1.2.1 dX5_prints_40 rfl (lv_at hl 0 rfl) ?_
        refine lv_bipush (v := (16 : Int32)) B.1.1 B.1.2.1 dX5_prints_41 (by decide) ?_
        refine lv_idiv B.1.1 B.1.2.1 dX5_prints_43 (by decide) ?_
        refine lv_imul B.1.1 B.1.2.1 dX5_prints_44 ?_
        refine lv_bipush (v := (10 : Int32)) B.1.1 B.1.2.1 dX5_prints_45 (by decide) ?_
        refine lv_iload_n B.1.1 B.1.2.1 dX5_prints_47 rfl (lv_at hl 0 rfl) ?_
        refine lv_bipush (v := (16 : Int32)) B.1.1 B.1.2.1 dX5_prints_48 (by decide) ?_
        refine lv_irem B.1.1 B.1.2.1 dX5_prints_50 (by decide) ?_
        refine lv_imul B.1.1 B.1.2.1 dX5_prints_51 ?_
        refine lv_iadd B.1.1 B.1.2.1 dX5_prints_52 ?_
        refine lv_iconst (v := (1 : Int32)) B.1.1 B.1.2.1 dX5_prints_53 (by decide) ?_
        refine lv_iadd B.1.1 B.1.2.1 dX5_prints_54 ?_
        exact q_iret B hr hlk h hw dX5_prints_55 (Nat.le_of_ble_eq_true rfl) (Nat.le_of_ble_eq_true rfl)
      · replace hw := hw.2 hc
        refine lv_iconst (v := (0 : Int32)) B.1.1 B.1.2.1 dX5_prints_33 (by decide) ?_
        refine lv_goto (tgt := 55) B.1.1 B.1.2.1 dX5_prints_34 (by decide) ?_
        exact q_iret B hr hlk h hw dX5_prints_55 (Nat.le_of_ble_eq_true rfl) (Nat.le_of_ble_eq_true rfl)
    · replace hw := hw.2 hc
      refine lv_iconst (v := (0 : Int32)) B.1.1 B.1.2.1 dX5_prints_19 (by decide) ?_
      exact q_iret B hr hlk h hw dX5_prints_20 (Nat.le_of_ble_eq_true rfl) (Nat.le_of_ble_eq_true rfl)
  intro h hl hw
  replace hl : lv_has ls 3 [(0, .ref a0), (1, .int x1)] := hl
  refine lv_aload_n B.1.1 B.1.2.1 dX5_prints_0 rfl (lv_at hl 0 rfl) ?_
  refine lv_iload_n B.1.1 B.1.2.1 dX5_prints_1 rfl (lv_at hl 1 rfl) ?_
  refine q_callIS B h (met_X5_isPrinter l x1) (CB B 1 kC_X5_isPrinter kI_RX5 kM_RX5_112 hd_X5_isPrinter ⟨Nat.le_of_ble_eq_true rfl, Nat.le_of_ble_eq_true rfl⟩) kS_X5_isPrinter (rest := [.ref a0]) rfl rfl hl.1 (Nat.le_of_ble_eq_true rfl) dX5_prints_2 ⟨Nat.le_of_ble_eq_true rfl, Nat.le_of_ble_eq_true rfl⟩ hw (fun r1 S1 H locs hw9 h9 => ?_)
  replace hw := hw9
  clear hw9
  replace h := h9
  clear h9
  refine lv_if_eq (tgt := 12) B.1.1 B.1.2.1 dX5_prints_5 (by decide) (fun hc => ?_) (fun hc => ?_)
  · replace hw := hw.1 hc
    refine lv_iconst (v := (1 : Int32)) B.1.1 B.1.2.1 dX5_prints_12 (by decide) ?_
    exact J13 a0 x1 (1 : Int32) a0 _ _ _ ls h (lv_sub hl [0, 1] rfl) hw
  · replace hw := hw.2 hc
    refine lv_iconst (v := (0 : Int32)) B.1.1 B.1.2.1 dX5_prints_8 (by decide) ?_
    refine lv_goto (tgt := 13) B.1.1 B.1.2.1 dX5_prints_9 (by decide) ?_
    exact J13 a0 x1 (0 : Int32) a0 _ _ _ ls h (lv_sub hl [0, 1] rfl) hw
set_option maxHeartbeats 4000000 in
set_option maxRecDepth 100000 in
theorem met_X5_dry (l : Launch) (a0 : Nat) (x1 : Int32) (x2 : Int32) : MI l yX5_dry cX5_dry 3 (some .int) 4 89 0 0 [.ref a0, .int x1, .int x2] (wX5_dry a0 x1 x2) := by
  refine MI.of (by decide) (Nat.le_of_ble_eq_true rfl) ?_
  intro p e s m below meth c D cs lo S Q ls B hr hlk hin
  intro h hl hw
  replace hl : lv_has ls 3 [(0, .ref a0), (1, .int x1), (2, .int x2)] := hl
  refine lv_aload_n B.1.1 B.1.2.1 dX5_dry_0 rfl (lv_at hl 0 rfl) ?_
  refine lv_aload_n B.1.1 B.1.2.1 dX5_dry_1 rfl (lv_at hl 0 rfl) ?_
  refine lv_iload_n B.1.1 B.1.2.1 dX5_dry_2 rfl (lv_at hl 1 rfl) ?_
  refine lv_iload_n B.1.1 B.1.2.1 dX5_dry_3 rfl (lv_at hl 2 rfl) ?_
  obtain ⟨hok, hw⟩ := hw
  refine q_callIV B h (met_X5_isStrip l a0 x1 x2) (CB B 2 kC_X5_isStrip kI_RX5 kM_RX5_104 hd_X5_isStrip ⟨Nat.le_of_ble_eq_true rfl, Nat.le_of_ble_eq_true rfl⟩) kO_X5_isStrip kV_X5_isStrip (ci := 5) rfl (by decide) hok.1 hok.2 (rest := [.ref a0]) rfl rfl hl.1 (Nat.le_of_ble_eq_true rfl) dX5_dry_4 ⟨Nat.le_of_ble_eq_true rfl, Nat.le_of_ble_eq_true rfl⟩ hw (fun r1 S1 H locs hw9 h9 => ?_)
  replace hw := hw9
  clear hw9
  replace h := h9
  clear h9
  refine lv_if_eq (tgt := 14) B.1.1 B.1.2.1 dX5_dry_7 (by decide) (fun hc => ?_) (fun hc => ?_)
  · replace hw := hw.1 hc
    refine lv_iconst (v := (1 : Int32)) B.1.1 B.1.2.1 dX5_dry_14 (by decide) ?_
    obtain ⟨hok, hw⟩ := hw
    refine q_callIV B h (met_X5_fails l a0 (1 : Int32)) (CB B 1 kC_X5_fails kI_RX5 kM_RX5_91 hd_X5_fails ⟨Nat.le_of_ble_eq_true rfl, Nat.le_of_ble_eq_true rfl⟩) kO_X5_fails kV_X5_fails (ci := 5) rfl (by decide) hok.1 hok.2 (rest := []) rfl rfl hl.1 (Nat.le_of_ble_eq_true rfl) dX5_dry_15 ⟨Nat.le_of_ble_eq_true rfl, Nat.le_of_ble_eq_true rfl⟩ hw (fun r2 S2 H locs hw9 h9 => ?_)
    replace hw := hw9
    clear hw9
    replace h := h9
    clear h9
    refine lv_if_eq (tgt := 25) B.1.1 B.1.2.1 dX5_dry_18 (by decide) (fun hc => ?_) (fun hc => ?_)
    · replace hw := hw.1 hc
      refine lv_aload_n B.1.1 B.1.2.1 dX5_dry_25 rfl (lv_at hl 0 rfl) ?_
      obtain ⟨hok, hw⟩ := hw
      refine q_getR B h (ci := 5) (j := 10) (code := 170) rfl inT_5 (by decide) kF_RX5_34 rfl rfl rfl (by decide) dX5_dry_26 hok.1 hok.2 ?_
      obtain ⟨o1, hoo1⟩ : ∃ z, z = gR S2 170 a0 := ⟨_, rfl⟩
      rw [← hoo1]
      replace hw := hw o1 hoo1
      refine lv_bipush (v := (16 : Int32)) B.1.1 B.1.2.1 dX5_dry_29 (by decide) ?_
      refine lv_iload_n B.1.1 B.1.2.1 dX5_dry_31 rfl (lv_at hl 1 rfl) ?_
      refine lv_imul B.1.1 B.1.2.1 dX5_dry_32 ?_
      refine lv_iload_n B.1.1 B.1.2.1 dX5_dry_33 rfl (lv_at hl 2 rfl) ?_
      refine lv_iadd B.1.1 B.1.2.1 dX5_dry_34 ?_
      obtain ⟨q1, hn, hw⟩ := hw
      subst hn
      replace hl : lv_has ls 3 [(0, .ref a0), (1, .int x1), (2, .int x2)] := hl
      obtain ⟨hok, hin9, hw⟩ := hw
      refine q_iald B h dX5_dry_35 hok.1 hok.2 hin9 ?_
      exact q_iret B hr hlk h hw dX5_dry_36 (Nat.le_of_ble_eq_true rfl) (Nat.le_of_ble_eq_true rfl)
    · replace hw := hw.2 hc
      refine lv_iconst (v := (0 : Int32)) B.1.1 B.1.2.1 dX5_dry_21 (by decide) ?_
      refine lv_goto (tgt := 36) B.1.1 B.1.2.1 dX5_dry_22 (by decide) ?_
      exact q_iret B hr hlk h hw dX5_dry_36 (Nat.le_of_ble_eq_true rfl) (Nat.le_of_ble_eq_true rfl)
  · replace hw := hw.2 hc
    refine lv_iconst (v := (0 : Int32)) B.1.1 B.1.2.1 dX5_dry_10 (by decide) ?_
    refine lv_goto (tgt := 15) B.1.1 B.1.2.1 dX5_dry_11 (by decide) ?_
    obtain ⟨hok, hw⟩ := hw
    refine q_callIV B h (met_X5_fails l a0 (0 : Int32)) (CB B 1 kC_X5_fails kI_RX5 kM_RX5_91 hd_X5_fails ⟨Nat.le_of_ble_eq_true rfl, Nat.le_of_ble_eq_true rfl⟩) kO_X5_fails kV_X5_fails (ci := 5) rfl (by decide) hok.1 hok.2 (rest := []) rfl rfl hl.1 (Nat.le_of_ble_eq_true rfl) dX5_dry_15 ⟨Nat.le_of_ble_eq_true rfl, Nat.le_of_ble_eq_true rfl⟩ hw (fun r3 S3 H locs hw9 h9 => ?_)
    replace hw := hw9
    clear hw9
    replace h := h9
    clear h9
    refine lv_if_eq (tgt := 25) B.1.1 B.1.2.1 dX5_dry_18 (by decide) (fun hc => ?_) (fun hc => ?_)
    · replace hw := hw.1 hc
      refine lv_aload_n B.1.1 B.1.2.1 dX5_dry_25 rfl (lv_at hl 0 rfl) ?_
      obtain ⟨hok, hw⟩ := hw
      refine q_getR B h (ci := 5) (j := 10) (code := 170) rfl inT_5 (by decide) kF_RX5_34 rfl rfl rfl (by decide) dX5_dry_26 hok.1 hok.2 ?_
      obtain ⟨o2, hoo2⟩ : ∃ z, z = gR S3 170 a0 := ⟨_, rfl⟩
      rw [← hoo2]
      replace hw := hw o2 hoo2
      refine lv_bipush (v := (16 : Int32)) B.1.1 B.1.2.1 dX5_dry_29 (by decide) ?_
      refine lv_iload_n B.1.1 B.1.2.1 dX5_dry_31 rfl (lv_at hl 1 rfl) ?_
      refine lv_imul B.1.1 B.1.2.1 dX5_dry_32 ?_
      refine lv_iload_n B.1.1 B.1.2.1 dX5_dry_33 rfl (lv_at hl 2 rfl) ?_
      refine lv_iadd B.1.1 B.1.2.1 dX5_dry_34 ?_
      obtain ⟨q2, hn, hw⟩ := hw
      subst hn
      replace hl : lv_has ls 3 [(0, .ref a0), (1, .int x1), (2, .int x2)] := hl
      obtain ⟨hok, hin9, hw⟩ := hw
      refine q_iald B h dX5_dry_35 hok.1 hok.2 hin9 ?_
      exact q_iret B hr hlk h hw dX5_dry_36 (Nat.le_of_ble_eq_true rfl) (Nat.le_of_ble_eq_true rfl)
    · replace hw := hw.2 hc
      refine lv_iconst (v := (0 : Int32)) B.1.1 B.1.2.1 dX5_dry_21 (by decide) ?_
      refine lv_goto (tgt := 36) B.1.1 B.1.2.1 dX5_dry_22 (by decide) ?_
      exact q_iret B hr hlk h hw dX5_dry_36 (Nat.le_of_ble_eq_true rfl) (Nat.le_of_ble_eq_true rfl)
set_option maxHeartbeats 4000000 in
set_option maxRecDepth 100000 in
theorem met_X5_ink (l : Launch) (a0 : Nat) (x1 : Int32) (x2 : Int32) (x3 : Int32) : MI l yX5_ink cX5_ink 4 (some .int) 3 69 0 0 [.ref a0, .int x1, .int x2, .int x3] (wX5_ink a0 x1 x2 x3) := by
  refine MI.of (by decide) (Nat.le_of_ble_eq_true rfl) ?_
  intro p e s m below meth c D cs lo S Q ls B hr hlk hin
  intro h hl hw
  replace hl : lv_has ls 4 [(0, .ref a0), (1, .int x1), (2, .int x2), (3, .int x3)] := hl
  refine lv_aload_n B.1.1 B.1.2.1 dX5_ink_0 rfl (lv_at hl 0 rfl) ?_
  refine lv_aload_n B.1.1 B.1.2.1 dX5_ink_1 rfl (lv_at hl 0 rfl) ?_
  refine lv_iload_n B.1.1 B.1.2.1 dX5_ink_2 rfl (lv_at hl 1 rfl) ?_
  refine lv_iload_n B.1.1 B.1.2.1 dX5_ink_3 rfl (lv_at hl 2 rfl) ?_
  refine lv_iload_n B.1.1 B.1.2.1 dX5_ink_4 rfl (lv_at hl 3 rfl) ?_
  obtain ⟨hok, hw⟩ := hw
  refine q_callIV B h (met_X5_isDot l a0 x1 x2 x3) (CB B 3 kC_X5_isDot kI_RX5 kM_RX5_94 hd_X5_isDot ⟨Nat.le_of_ble_eq_true rfl, Nat.le_of_ble_eq_true rfl⟩) kO_X5_isDot kV_X5_isDot (ci := 5) rfl (by decide) hok.1 hok.2 (rest := [.ref a0]) rfl rfl hl.1 (Nat.le_of_ble_eq_true rfl) dX5_ink_5 ⟨Nat.le_of_ble_eq_true rfl, Nat.le_of_ble_eq_true rfl⟩ hw (fun r1 S1 H locs hw9 h9 => ?_)
  replace hw := hw9
  clear hw9
  replace h := h9
  clear h9
  refine lv_if_eq (tgt := 15) B.1.1 B.1.2.1 dX5_ink_8 (by decide) (fun hc => ?_) (fun hc => ?_)
  · replace hw := hw.1 hc
    refine lv_iconst (v := (1 : Int32)) B.1.1 B.1.2.1 dX5_ink_15 (by decide) ?_
    obtain ⟨hok, hw⟩ := hw
    refine q_callIV B h (met_X5_fails l a0 (1 : Int32)) (CB B 1 kC_X5_fails kI_RX5 kM_RX5_91 hd_X5_fails ⟨Nat.le_of_ble_eq_true rfl, Nat.le_of_ble_eq_true rfl⟩) kO_X5_fails kV_X5_fails (ci := 5) rfl (by decide) hok.1 hok.2 (rest := []) rfl rfl hl.1 (Nat.le_of_ble_eq_true rfl) dX5_ink_16 ⟨Nat.le_of_ble_eq_true rfl, Nat.le_of_ble_eq_true rfl⟩ hw (fun r2 S2 H locs hw9 h9 => ?_)
    replace hw := hw9
    clear hw9
    replace h := h9
    clear h9
    refine lv_if_eq (tgt := 26) B.1.1 B.1.2.1 dX5_ink_19 (by decide) (fun hc => ?_) (fun hc => ?_)
    · replace hw := hw.1 hc
      refine lv_aload_n B.1.1 B.1.2.1 dX5_ink_26 rfl (lv_at hl 0 rfl) ?_
      refine lv_iload_n B.1.1 B.1.2.1 dX5_ink_27 rfl (lv_at hl 1 rfl) ?_
      refine lv_iload_n B.1.1 B.1.2.1 dX5_ink_28 rfl (lv_at hl 2 rfl) ?_
      refine lv_iload_n B.1.1 B.1.2.1 dX5_ink_29 rfl (lv_at hl 3 rfl) ?_
      obtain ⟨hok, hw⟩ := hw
      refine q_callIV B h (met_X5_inkOf l a0 x1 x2 x3) (CB B 3 kC_X5_inkOf kI_RX5 kM_RX5_151 hd_X5_inkOf ⟨Nat.le_of_ble_eq_true rfl, Nat.le_of_ble_eq_true rfl⟩) kO_X5_inkOf kV_X5_inkOf (ci := 5) rfl (by decide) hok.1 hok.2 (rest := []) rfl rfl hl.1 (Nat.le_of_ble_eq_true rfl) dX5_ink_30 ⟨Nat.le_of_ble_eq_true rfl, Nat.le_of_ble_eq_true rfl⟩ hw (fun r3 S3 H locs hw9 h9 => ?_)
      replace hw := hw9
      clear hw9
      replace h := h9
      clear h9
      exact q_iret B hr hlk h hw dX5_ink_33 (Nat.le_of_ble_eq_true rfl) (Nat.le_of_ble_eq_true rfl)
    · replace hw := hw.2 hc
      refine lv_iconst (v := (0 : Int32)) B.1.1 B.1.2.1 dX5_ink_22 (by decide) ?_
      refine lv_goto (tgt := 33) B.1.1 B.1.2.1 dX5_ink_23 (by decide) ?_
      exact q_iret B hr hlk h hw dX5_ink_33 (Nat.le_of_ble_eq_true rfl) (Nat.le_of_ble_eq_true rfl)
  · replace hw := hw.2 hc
    refine lv_iconst (v := (0 : Int32)) B.1.1 B.1.2.1 dX5_ink_11 (by decide) ?_
    refine lv_goto (tgt := 16) B.1.1 B.1.2.1 dX5_ink_12 (by decide) ?_
    obtain ⟨hok, hw⟩ := hw
    refine q_callIV B h (met_X5_fails l a0 (0 : Int32)) (CB B 1 kC_X5_fails kI_RX5 kM_RX5_91 hd_X5_fails ⟨Nat.le_of_ble_eq_true rfl, Nat.le_of_ble_eq_true rfl⟩) kO_X5_fails kV_X5_fails (ci := 5) rfl (by decide) hok.1 hok.2 (rest := []) rfl rfl hl.1 (Nat.le_of_ble_eq_true rfl) dX5_ink_16 ⟨Nat.le_of_ble_eq_true rfl, Nat.le_of_ble_eq_true rfl⟩ hw (fun r4 S4 H locs hw9 h9 => ?_)
    replace hw := hw9
    clear hw9
    replace h := h9
    clear h9
    refine lv_if_eq (tgt := 26) B.1.1 B.1.2.1 dX5_ink_19 (by decide) (fun hc => ?_) (fun hc => ?_)
    · replace hw := hw.1 hc
      refine lv_aload_n B.1.1 B.1.2.1 dX5_ink_26 rfl (lv_at hl 0 rfl) ?_
      refine lv_iload_n B.1.1 B.1.2.1 dX5_ink_27 rfl (lv_at hl 1 rfl) ?_
      refine lv_iload_n B.1.1 B.1.2.1 dX5_ink_28 rfl (lv_at hl 2 rfl) ?_
      refine lv_iload_n B.1.1 B.1.2.1 dX5_ink_29 rfl (lv_at hl 3 rfl) ?_
      obtain ⟨hok, hw⟩ := hw
      refine q_callIV B h (met_X5_inkOf l a0 x1 x2 x3) (CB B 3 kC_X5_inkOf kI_RX5 kM_RX5_151 hd_X5_inkOf ⟨Nat.le_of_ble_eq_true rfl, Nat.le_of_ble_eq_true rfl⟩) kO_X5_inkOf kV_X5_inkOf (ci := 5) rfl (by decide) hok.1 hok.2 (rest := []) rfl rfl hl.1 (Nat.le_of_ble_eq_true rfl) dX5_ink_30 ⟨Nat.le_of_ble_eq_true rfl, Nat.le_of_ble_eq_true rfl⟩ hw (fun r5 S5 H locs hw9 h9 => ?_)
      replace hw := hw9
      clear hw9
      replace h := h9
      clear h9
      exact q_iret B hr hlk h hw dX5_ink_33 (Nat.le_of_ble_eq_true rfl) (Nat.le_of_ble_eq_true rfl)
    · replace hw := hw.2 hc
      refine lv_iconst (v := (0 : Int32)) B.1.1 B.1.2.1 dX5_ink_22 (by decide) ?_
      refine lv_goto (tgt := 33) B.1.1 B.1.2.1 dX5_ink_23 (by decide) ?_
      exact q_iret B hr hlk h hw dX5_ink_33 (Nat.le_of_ble_eq_true rfl) (Nat.le_of_ble_eq_true rfl)
set_option maxHeartbeats 4000000 in
set_option maxRecDepth 100000 in
theorem met_X5_spilt (l : Launch) (a0 : Nat) (x1 : Int32) : MI l yX5_spilt cX5_spilt 4 (some .int) 2 45 0 0 [.ref a0, .int x1] (wX5_spilt a0 x1) := by
  refine MI.of (by decide) (Nat.le_of_ble_eq_true rfl) ?_
  intro p e s m below meth c D cs lo S Q ls B hr hlk hin
  have L26 : ∀ (c0 : Nat) (c1 : Int32) (K : Int32 → Int32 → HS → Prop) (n : Nat) (m2 : Int32) (m3 : Int32) (S : HS) (H : Heap) (locs : List Loc) (ls : Array Slot), Hx D cs lo s S H locs → lv_has ls 4 [(0, .ref c0), (1, .int c1), (2, .int m2), (3, .int m3)] → wX5_spilt_L26 c0 c1 n m2 m3 S K → (∀ (m2 : Int32) (m3 : Int32) (S : HS) (H : Heap) (locs : List Loc) (ls : Array Slot), Hx D cs lo s S H locs → lv_has ls 4 [(0, .ref c0), (1, .int c1), (2, .int m2), (3, .int m3)] → K m2 m3 S → W p l e ({ frames := 2, cells := 0, slots := 0, locals := 45 } : Room) s m [.ref a0, .int x1].toArray below meth c H locs 0 0 (MQ below (va_Qi Q (fun S' t => hp D cs lo S' t.heap) (fun q => lo ≤ q)) [.ref a0, .int x1].toArray s 0 0 (fun q => lo ≤ q)) (F0 m 75 ls [])) → W p l e ({ frames := 2, cells := 0, slots := 0, locals := 45 } : Room) s m [.ref a0, .int x1].toArray below meth c H locs 0 0 (MQ below (va_Qi Q (fun S' t => hp D cs lo S' t.heap) (fun q => lo ≤ q)) [.ref a0, .int x1].toArray s 0 0 (fun q => lo ≤ q)) (F0 m 26 ls []) := by
    intro c0 c1 K n
    induction n with
    | zero => intro m2 m3 S H locs ls h hl hw hk; exact False.elim hw
    | succ n ih =>
      intro m2 m3 S H locs ls h hl hw hk
      refine lv_iload_n B.1.1 B.1.2.1 dX5_spilt_26 rfl (lv_at hl 3 rfl) ?_
      refine lv_bipush (v := (8 : Int32)) B.1.1 B.1.2.1 dX5_spilt_27 (by decide) ?_
      refine lv_aload_n B.1.1 B.1.2.1 dX5_spilt_29 rfl (lv_at hl 0 rfl) ?_
      obtain ⟨hok, hw⟩ := hw
      refine q_getR B h (ci := 5) (j := 2) (code := 162) rfl inT_5 (by decide) kF_RX5_7 rfl rfl rfl (by decide) dX5_spilt_30 hok.1 hok.2 ?_
      obtain ⟨o1, hoo1⟩ : ∃ z, z = gR S 162 c0 := ⟨_, rfl⟩
      rw [← hoo1]
      replace hw := hw o1 hoo1
      refine lv_iload_n B.1.1 B.1.2.1 dX5_spilt_33 rfl (lv_at hl 1 rfl) ?_
      obtain ⟨q1, hn, hw⟩ := hw
      subst hn
      replace hl : lv_has ls 4 [(0, .ref c0), (1, .int c1), (2, .int m2), (3, .int m3)] := hl
      obtain ⟨hok, hin9, hw⟩ := hw
      refine q_iald B h dX5_spilt_34 hok.1 hok.2 hin9 ?_
      refine lv_imul B.1.1 B.1.2.1 dX5_spilt_35 ?_
      refine lv_icmp_ge (tgt := 75) B.1.1 B.1.2.1 dX5_spilt_36 (by decide) (fun hc => ?_) (fun hc => ?_)
      · replace hw := hw.1 hc
        exact hk m2 m3 _ _ _ ls h (lv_sub hl [0, 1, 2, 3] rfl) hw
      · replace hw := hw.2 hc
        refine lv_iload_n B.1.1 B.1.2.1 dX5_spilt_39 rfl (lv_at hl 2 rfl) ?_
        refine lv_aload_n B.1.1 B.1.2.1 dX5_spilt_40 rfl (lv_at hl 0 rfl) ?_
        refine lv_iload_n B.1.1 B.1.2.1 dX5_spilt_41 rfl (lv_at hl 1 rfl) ?_
        refine lv_iload_n B.1.1 B.1.2.1 dX5_spilt_42 rfl (lv_at hl 3 rfl) ?_
        refine lv_bipush (v := (8 : Int32)) B.1.1 B.1.2.1 dX5_spilt_43 (by decide) ?_
        refine lv_irem B.1.1 B.1.2.1 dX5_spilt_45 (by decide) ?_
        refine lv_iload_n B.1.1 B.1.2.1 dX5_spilt_46 rfl (lv_at hl 3 rfl) ?_
        refine lv_bipush (v := (8 : Int32)) B.1.1 B.1.2.1 dX5_spilt_47 (by decide) ?_
        refine lv_idiv B.1.1 B.1.2.1 dX5_spilt_49 (by decide) ?_
        obtain ⟨hok, hw⟩ := hw
        refine q_callIV B h (met_X5_all l c0 c1 (m3 - m3 / (8 : Int32) * (8 : Int32)) (m3 / (8 : Int32))) (CB B 3 kC_X5_all kI_RX5 kM_RX5_148 hd_X5_all ⟨Nat.le_of_ble_eq_true rfl, Nat.le_of_ble_eq_true rfl⟩) kO_X5_all kV_X5_all (ci := 5) rfl (by decide) hok.1 hok.2 (rest := [.int m2]) rfl rfl hl.1 (Nat.le_of_ble_eq_true rfl) dX5_spilt_50 ⟨Nat.le_of_ble_eq_true rfl, Nat.le_of_ble_eq_true rfl⟩ hw (fun r3 S3 H locs hw9 h9 => ?_)
        replace hw := hw9
        clear hw9
        replace h := h9
        clear h9
        refine lv_aload_n B.1.1 B.1.2.1 dX5_spilt_53 rfl (lv_at hl 0 rfl) ?_
        obtain ⟨hok, hw⟩ := hw
        refine q_getR B h (ci := 5) (j := 5) (code := 165) rfl inT_5 (by decide) kF_RX5_19 rfl rfl rfl (by decide) dX5_spilt_54 hok.1 hok.2 ?_
        obtain ⟨o2, hoo2⟩ : ∃ z, z = gR S3 165 c0 := ⟨_, rfl⟩
        rw [← hoo2]
        replace hw := hw o2 hoo2
        refine lv_iload_n B.1.1 B.1.2.1 dX5_spilt_57 rfl (lv_at hl 1 rfl) ?_
        obtain ⟨q2, hn, hw⟩ := hw
        subst hn
        replace hl : lv_has ls 4 [(0, .ref c0), (1, .int c1), (2, .int m2), (3, .int m3)] := hl
        obtain ⟨hok, hin9, hw⟩ := hw
        refine q_iald B h dX5_spilt_58 hok.1 hok.2 hin9 ?_
        refine lv_icmp_le (tgt := 66) B.1.1 B.1.2.1 dX5_spilt_59 (by decide) (fun hc => ?_) (fun hc => ?_)
        · replace hw := hw.1 hc
          refine lv_iconst (v := (0 : Int32)) B.1.1 B.1.2.1 dX5_spilt_66 (by decide) ?_
          refine lv_iadd B.1.1 B.1.2.1 dX5_spilt_67 ?_
          refine lv_istore_n (i := 2) (lv' := [(2, .int (m2 + (0 : Int32))), (0, .ref c0), (1, .int c1), (3, .int m3)]) B.1.1 B.1.2.1 dX5_spilt_68 rfl hl (by decide) rfl (fun ls hl9 => ?_)
          replace hl := hl9
          clear hl9
          refine lv_iinc (i := 3) (v := (m3 + (1 : Int32))) (lv' := [(3, .int (m3 + (1 : Int32))), (2, .int (m2 + (0 : Int32))), (0, .ref c0), (1, .int c1)]) B.1.1 B.1.2.1 dX5_spilt_69 hl (k := 3) rfl rfl (by decide) rfl (fun ls hl9 => ?_)
          replace hl := hl9
          clear hl9
          refine lv_goto (tgt := 26) B.1.1 B.1.2.1 dX5_spilt_72 (by decide) ?_
          exact ih (m2 + (0 : Int32)) (m3 + (1 : Int32)) _ _ _ ls h (lv_sub hl [2, 3, 1, 0] rfl) hw hk
        · replace hw := hw.2 hc
          refine lv_iconst (v := (1 : Int32)) B.1.1 B.1.2.1 dX5_spilt_62 (by decide) ?_
          refine lv_goto (tgt := 67) B.1.1 B.1.2.1 dX5_spilt_63 (by decide) ?_
          refine lv_iadd B.1.1 B.1.2.1 dX5_spilt_67 ?_
          refine lv_istore_n (i := 2) (lv' := [(2, .int (m2 + (1 : Int32))), (0, .ref c0), (1, .int c1), (3, .int m3)]) B.1.1 B.1.2.1 dX5_spilt_68 rfl hl (by decide) rfl (fun ls hl9 => ?_)
          replace hl := hl9
          clear hl9
          refine lv_iinc (i := 3) (v := (m3 + (1 : Int32))) (lv' := [(3, .int (m3 + (1 : Int32))), (2, .int (m2 + (1 : Int32))), (0, .ref c0), (1, .int c1)]) B.1.1 B.1.2.1 dX5_spilt_69 hl (k := 3) rfl rfl (by decide) rfl (fun ls hl9 => ?_)
          replace hl := hl9
          clear hl9
          refine lv_goto (tgt := 26) B.1.1 B.1.2.1 dX5_spilt_72 (by decide) ?_
          exact ih (m2 + (1 : Int32)) (m3 + (1 : Int32)) _ _ _ ls h (lv_sub hl [2, 3, 1, 0] rfl) hw hk
  intro h hl hw
  replace hl : lv_has ls 4 [(0, .ref a0), (1, .int x1)] := hl
  refine lv_aload_n B.1.1 B.1.2.1 dX5_spilt_0 rfl (lv_at hl 0 rfl) ?_
  refine lv_aload_n B.1.1 B.1.2.1 dX5_spilt_1 rfl (lv_at hl 0 rfl) ?_
  refine lv_iload_n B.1.1 B.1.2.1 dX5_spilt_2 rfl (lv_at hl 1 rfl) ?_
  obtain ⟨hok, hw⟩ := hw
  refine q_callIV B h (met_X5_isBanner l a0 x1) (CB B 1 kC_X5_isBanner kI_RX5 kM_RX5_73 hd_X5_isBanner ⟨Nat.le_of_ble_eq_true rfl, Nat.le_of_ble_eq_true rfl⟩) kO_X5_isBanner kV_X5_isBanner (ci := 5) rfl (by decide) hok.1 hok.2 (rest := [.ref a0]) rfl rfl hl.1 (Nat.le_of_ble_eq_true rfl) dX5_spilt_3 ⟨Nat.le_of_ble_eq_true rfl, Nat.le_of_ble_eq_true rfl⟩ hw (fun r1 S1 H locs hw9 h9 => ?_)
  replace hw := hw9
  clear hw9
  replace h := h9
  clear h9
  refine lv_if_eq (tgt := 13) B.1.1 B.1.2.1 dX5_spilt_6 (by decide) (fun hc => ?_) (fun hc => ?_)
  · replace hw := hw.1 hc
    refine lv_iconst (v := (1 : Int32)) B.1.1 B.1.2.1 dX5_spilt_13 (by decide) ?_
    obtain ⟨hok, hw⟩ := hw
    refine q_callIV B h (met_X5_fails l a0 (1 : Int32)) (CB B 1 kC_X5_fails kI_RX5 kM_RX5_91 hd_X5_fails ⟨Nat.le_of_ble_eq_true rfl, Nat.le_of_ble_eq_true rfl⟩) kO_X5_fails kV_X5_fails (ci := 5) rfl (by decide) hok.1 hok.2 (rest := []) rfl rfl hl.1 (Nat.le_of_ble_eq_true rfl) dX5_spilt_14 ⟨Nat.le_of_ble_eq_true rfl, Nat.le_of_ble_eq_true rfl⟩ hw (fun r2 S2 H locs hw9 h9 => ?_)
    replace hw := hw9
    clear hw9
    replace h := h9
    clear h9
    refine lv_if_eq (tgt := 22) B.1.1 B.1.2.1 dX5_spilt_17 (by decide) (fun hc => ?_) (fun hc => ?_)
    · replace hw := hw.1 hc
      refine lv_iconst (v := (0 : Int32)) B.1.1 B.1.2.1 dX5_spilt_22 (by decide) ?_
      refine lv_istore_n (i := 2) (lv' := [(2, .int (0 : Int32)), (0, .ref a0), (1, .int x1)]) B.1.1 B.1.2.1 dX5_spilt_23 rfl hl (by decide) rfl (fun ls hl9 => ?_)
      replace hl := hl9
      clear hl9
      refine lv_iconst (v := (0 : Int32)) B.1.1 B.1.2.1 dX5_spilt_24 (by decide) ?_
      refine lv_istore_n (i := 3) (lv' := [(3, .int (0 : Int32)), (2, .int (0 : Int32)), (0, .ref a0), (1, .int x1)]) B.1.1 B.1.2.1 dX5_spilt_25 rfl hl (by decide) rfl (fun ls hl9 => ?_)
      replace hl := hl9
      clear hl9
      obtain ⟨n1, hw⟩ := hw
      refine L26 a0 x1 _ n1 (0 : Int32) (0 : Int32) _ _ _ ls h (lv_sub hl [2, 3, 1, 0] rfl) hw (fun u1 u2 S4 H locs ls h9 hl9 hw9 => ?_)
      replace hw := hw9
      clear hw9
      replace h := h9
      clear h9
      replace hl := hl9
      clear hl9
      refine lv_iload_n B.1.1 B.1.2.1 dX5_spilt_75 rfl (lv_at hl 2 rfl) ?_
      exact q_iret B hr hlk h hw dX5_spilt_76 (Nat.le_of_ble_eq_true rfl) (Nat.le_of_ble_eq_true rfl)
    · replace hw := hw.2 hc
      refine lv_iconst (v := (0 : Int32)) B.1.1 B.1.2.1 dX5_spilt_20 (by decide) ?_
      exact q_iret B hr hlk h hw dX5_spilt_21 (Nat.le_of_ble_eq_true rfl) (Nat.le_of_ble_eq_true rfl)
  · replace hw := hw.2 hc
    refine lv_iconst (v := (0 : Int32)) B.1.1 B.1.2.1 dX5_spilt_9 (by decide) ?_
    refine lv_goto (tgt := 14) B.1.1 B.1.2.1 dX5_spilt_10 (by decide) ?_
    obtain ⟨hok, hw⟩ := hw
    refine q_callIV B h (met_X5_fails l a0 (0 : Int32)) (CB B 1 kC_X5_fails kI_RX5 kM_RX5_91 hd_X5_fails ⟨Nat.le_of_ble_eq_true rfl, Nat.le_of_ble_eq_true rfl⟩) kO_X5_fails kV_X5_fails (ci := 5) rfl (by decide) hok.1 hok.2 (rest := []) rfl rfl hl.1 (Nat.le_of_ble_eq_true rfl) dX5_spilt_14 ⟨Nat.le_of_ble_eq_true rfl, Nat.le_of_ble_eq_true rfl⟩ hw (fun r4 S5 H locs hw9 h9 => ?_)
    replace hw := hw9
    clear hw9
    replace h := h9
    clear h9
    refine lv_if_eq (tgt := 22) B.1.1 B.1.2.1 dX5_spilt_17 (by decide) (fun hc => ?_) (fun hc => ?_)
    · replace hw := hw.1 hc
      refine lv_iconst (v := (0 : Int32)) B.1.1 B.1.2.1 dX5_spilt_22 (by decide) ?_
      refine lv_istore_n (i := 2) (lv' := [(2, .int (0 : Int32)), (0, .ref a0), (1, .int x1)]) B.1.1 B.1.2.1 dX5_spilt_23 rfl hl (by decide) rfl (fun ls hl9 => ?_)
      replace hl := hl9
      clear hl9
      refine lv_iconst (v := (0 : Int32)) B.1.1 B.1.2.1 dX5_spilt_24 (by decide) ?_
      refine lv_istore_n (i := 3) (lv' := [(3, .int (0 : Int32)), (2, .int (0 : Int32)), (0, .ref a0), (1, .int x1)]) B.1.1 B.1.2.1 dX5_spilt_25 rfl hl (by decide) rfl (fun ls hl9 => ?_)
      replace hl := hl9
      clear hl9
      obtain ⟨n2, hw⟩ := hw
      refine L26 a0 x1 _ n2 (0 : Int32) (0 : Int32) _ _ _ ls h (lv_sub hl [2, 3, 1, 0] rfl) hw (fun u3 u4 S6 H locs ls h9 hl9 hw9 => ?_)
      replace hw := hw9
      clear hw9
      replace h := h9
      clear h9
      replace hl := hl9
      clear hl9
      refine lv_iload_n B.1.1 B.1.2.1 dX5_spilt_75 rfl (lv_at hl 2 rfl) ?_
      exact q_iret B hr hlk h hw dX5_spilt_76 (Nat.le_of_ble_eq_true rfl) (Nat.le_of_ble_eq_true rfl)
    · replace hw := hw.2 hc
      refine lv_iconst (v := (0 : Int32)) B.1.1 B.1.2.1 dX5_spilt_20 (by decide) ?_
      exact q_iret B hr hlk h hw dX5_spilt_21 (Nat.le_of_ble_eq_true rfl) (Nat.le_of_ble_eq_true rfl)
set_option maxHeartbeats 4000000 in
set_option maxRecDepth 100000 in
theorem met_X5_used (l : Launch) (a0 : Nat) (x1 : Int32) (x2 : Int32) : MI l yX5_used cX5_used 4 (some .int) 2 43 0 0 [.ref a0, .int x1, .int x2] (wX5_used a0 x1 x2) := by
  refine MI.of (by decide) (Nat.le_of_ble_eq_true rfl) ?_
  intro p e s m below meth c D cs lo S Q ls B hr hlk hin
  have J27 : ∀ (v0 : Nat) (v1 : Int32) (v2 : Int32) (t0 : Int32) (t1 : Nat) (S : HS) (H : Heap) (locs : List Loc) (ls : Array Slot), Hx D cs lo s S H locs → lv_has ls 4 [(0, .ref v0), (1, .int v1), (2, .int v2)] → wX5_used_J27 v0 v1 v2 t0 t1 S Q → W p l e ({ frames := 2, cells := 0, slots := 0, locals := 43 } : Room) s m [.ref a0, .int x1, .int x2].toArray below meth c H locs 0 0 (MQ below (va_Qi Q (fun S' t => hp D cs lo S' t.heap) (fun q => lo ≤ q)) [.ref a0, .int x1, .int x2].toArray s 0 0 (fun q => lo ≤ q)) (F0 m 27 ls [.int t0, .ref t1]) := by
    intro v0 v1 v2 t0 t1 S H locs ls h hl hw
    obtain ⟨hok, hw⟩ := hw
    refine q_callIV B h (met_X5_fails l t1 t0) (CB B 1 kC_X5_fails kI_RX5 kM_RX5_91 hd_X5_fails ⟨Nat.le_of_ble_eq_true rfl, Nat.le_of_ble_eq_true rfl⟩) kO_X5_fails kV_X5_fails (ci := 5) rfl (by decide) hok.1 hok.2 (rest := []) rfl rfl hl.1 (Nat.le_of_ble_eq_true rfl) dX5_used_27 ⟨Nat.le_of_ble_eq_true rfl, Nat.le_of_ble_eq_true rfl⟩ hw (fun r2 S2 H locs hw9 h9 => ?_)
    replace hw := hw9
    clear hw9
    replace h := h9
    clear h9
    refine lv_if_eq (tgt := 37) B.1.1 B.1.2.1 dX5_used_30 (by decide) (fun hc => ?_) (fun hc => ?_)
    · replace hw := hw.1 hc
      refine lv_iload_n B.1.1 B.1.2.1 dX5_used_37 rfl (lv_at hl 1 rfl) ?_
      refine lv_if_eq (tgt := 50) B.1.1 B.1.2.1 dX5_used_38 (by decide) (fun hc => ?_) (fun hc => ?_)
      · replace hw := hw.1 hc
        refine lv_aload_n B.1.1 B.1.2.1 dX5_used_50 rfl (lv_at hl 0 rfl) ?_
        obtain ⟨hok, hw⟩ := hw
        refine q_getR B h (ci := 5) (j := 15) (code := 175) rfl inT_5 (by decide) kF_RX5_50 rfl rfl rfl (by decide) dX5_used_51 hok.1 hok.2 ?_
        obtain ⟨o1, hoo1⟩ : ∃ z, z = gR S2 175 v0 := ⟨_, rfl⟩
        rw [← hoo1]
        replace hw := hw o1 hoo1
        refine lv_iload_n B.1.1 B.1.2.1 dX5_used_54 rfl (lv_at hl 2 rfl) ?_
        obtain ⟨q1, hn, hw⟩ := hw
        subst hn
        replace hl : lv_has ls 4 [(0, .ref v0), (1, .int v1), (2, .int v2)] := hl
        obtain ⟨hok, hin9, hw⟩ := hw
        refine q_iald B h dX5_used_55 hok.1 hok.2 hin9 ?_
        exact q_iret B hr hlk h hw dX5_used_56 (Nat.le_of_ble_eq_true rfl) (Nat.le_of_ble_eq_true rfl)
      · replace hw := hw.2 hc
        refine lv_aload_n B.1.1 B.1.2.1 dX5_used_41 rfl (lv_at hl 0 rfl) ?_
        obtain ⟨hok, hw⟩ := hw
        refine q_getR B h (ci := 5) (j := 11) (code := 171) rfl inT_5 (by decide) kF_RX5_37 rfl rfl rfl (by decide) dX5_used_42 hok.1 hok.2 ?_
        obtain ⟨o2, hoo2⟩ : ∃ z, z = gR S2 171 v0 := ⟨_, rfl⟩
        rw [← hoo2]
        replace hw := hw o2 hoo2
        refine lv_iload_n B.1.1 B.1.2.1 dX5_used_45 rfl (lv_at hl 2 rfl) ?_
        obtain ⟨q2, hn, hw⟩ := hw
        subst hn
        replace hl : lv_has ls 4 [(0, .ref v0), (1, .int v1), (2, .int v2)] := hl
        obtain ⟨hok, hin9, hw⟩ := hw
        refine q_iald B h dX5_used_46 hok.1 hok.2 hin9 ?_
        refine lv_goto (tgt := 56) B.1.1 B.1.2.1 dX5_used_47 (by decide) ?_
        exact q_iret B hr hlk h hw dX5_used_56 (Nat.le_of_ble_eq_true rfl) (Nat.le_of_ble_eq_true rfl)
    · replace hw := hw.2 hc
      refine lv_iconst (v := (0 : Int32)) B.1.1 B.1.2.1 dX5_used_33 (by decide) ?_
      refine lv_goto (tgt := 56) B.1.1 B.1.2.1 dX5_used_34 (by decide) ?_
      exact q_iret B hr hlk h hw dX5_used_56 (Nat.le_of_ble_eq_true rfl) (Nat.le_of_ble_eq_true rfl)
  have J16 : ∀ (v0 : Nat) (v1 : Int32) (v2 : Int32) (t0 : Int32) (S : HS) (H : Heap) (locs : List Loc) (ls : Array Slot), Hx D cs lo s S H locs → lv_has ls 4 [(0, .ref v0), (1, .int v1), (2, .int v2)] → wX5_used_J16 v0 v1 v2 t0 S Q → W p l e ({ frames := 2, cells := 0, slots := 0, locals := 43 } : Room) s m [.ref a0, .int x1, .int x2].toArray below meth c H locs 0 0 (MQ below (va_Qi Q (fun S' t => hp D cs lo S' t.heap) (fun q => lo ≤ q)) [.ref a0, .int x1, .int x2].toArray s 0 0 (fun q => lo ≤ q)) (F0 m 16 ls [.int t0]) := by
    intro v0 v1 v2 t0 S H locs ls h hl hw
    refine lv_istore_n (i := 3) (lv' := [(3, .int t0), (0, .ref v0), (1, .int v1), (2, .int v2)]) B.1.1 B.1.2.1 dX5_used_16 rfl hl (by decide) rfl (fun ls hl9 => ?_)
    replace hl := hl9
    clear hl9
    refine lv_aload_n B.1.1 B.1.2.1 dX5_used_17 rfl (lv_at hl 1 rfl) ?_
    refine lv_iload_n B.1.1 B.1.2.1 dX5_used_18 rfl (lv_at hl 0 rfl) ?_
    refine lv_if_eq (tgt := 26) B.1.1 B.1.2.1 dX5_used_19 (by decide) (fun hc => ?_) (fun hc => ?_)
    · replace hw := hw.1 hc
      refine lv_iconst (v := (1 : Int32)) B.1.1 B.1.2.1 dX5_used_26 (by decide) ?_
      exact J27 v0 v1 v2 (1 : Int32) v0 _ _ _ ls h (lv_sub hl [1, 2, 3] rfl) hw
    · replace hw := hw.2 hc
      refine lv_iconst (v := (0 : Int32)) B.1.1 B.1.2.1 dX5_used_22 (by decide) ?_
      refine lv_goto (tgt := 27) B.1.1 B.1.2.1 dX5_used_23 (by decide) ?_
      exact J27 v0 v1 v2 (0 : Int32) v0 _ _ _ ls h (lv_sub hl [1, 2, 3] rfl) hw
  intro h hl hw
  replace hl : lv_has ls 4 [(0, .ref a0), (1, .int x1), (2, .int x2)] := hl
  refine lv_iload_n B.1.1 B.1.2.1 dX5_used_0 rfl (lv_at hl 1 rfl) ?_
  refine lv_if_eq (tgt := 12) B.1.1 B.1.2.1 dX5_used_1 (by decide) (fun hc => ?_) (fun hc => ?_)
  · replace hw := hw.1 hc
    refine lv_iload_n B.1.1 B.1.2.1 dX5_used_12 rfl (lv_at hl 2 rfl) ?_
    refine q_callIS B h (met_X5_isPrinter l x2) (CB B 1 kC_X5_isPrinter kI_RX5 kM_RX5_112 hd_X5_isPrinter ⟨Nat.le_of_ble_eq_true rfl, Nat.le_of_ble_eq_true rfl⟩) kS_X5_isPrinter (rest := []) rfl rfl hl.1 (Nat.le_of_ble_eq_true rfl) dX5_used_13 ⟨Nat.le_of_ble_eq_true rfl, Nat.le_of_ble_eq_true rfl⟩ hw (fun r1 S1 H locs hw9 h9 => ?_)
    replace hw := hw9
    clear hw9
    replace h := h9
    clear h9
    exact J16 a0 x1 x2 r1 _ _ _ ls h (lv_sub hl [0, 1, 2] rfl) hw
  · replace hw := hw.2 hc
    refine lv_aload_n B.1.1 B.1.2.1 dX5_used_4 rfl (lv_at hl 0 rfl) ?_
    refine lv_iload_n B.1.1 B.1.2.1 dX5_used_5 rfl (lv_at hl 2 rfl) ?_
    obtain ⟨hok, hw⟩ := hw
    refine q_callIV B h (met_X5_isBanner l a0 x2) (CB B 1 kC_X5_isBanner kI_RX5 kM_RX5_73 hd_X5_isBanner ⟨Nat.le_of_ble_eq_true rfl, Nat.le_of_ble_eq_true rfl⟩) kO_X5_isBanner kV_X5_isBanner (ci := 5) rfl (by decide) hok.1 hok.2 (rest := []) rfl rfl hl.1 (Nat.le_of_ble_eq_true rfl) dX5_used_6 ⟨Nat.le_of_ble_eq_true rfl, Nat.le_of_ble_eq_true rfl⟩ hw (fun r3 S3 H locs hw9 h9 => ?_)
    replace hw := hw9
    clear hw9
    replace h := h9
    clear h9
    refine lv_goto (tgt := 16) B.1.1 B.1.2.1 dX5_used_9 (by decide) ?_
    exact J16 a0 x1 x2 r3 _ _ _ ls h (lv_sub hl [0, 1, 2] rfl) hw
set_option maxHeartbeats 4000000 in
set_option maxRecDepth 100000 in
theorem met_X5_seam (l : Launch) (a0 : Nat) (x1 : Int32) (x2 : Int32) : MI l yX5_seam cX5_seam 11 (some .int) 4 93 0 0 [.ref a0, .int x1, .int x2] (wX5_seam a0 x1 x2) := by
  refine MI.of (by decide) (Nat.le_of_ble_eq_true rfl) ?_
  intro p e s m below meth c D cs lo S Q ls B hr hlk hin
  have L166 : ∀ (c0 : Nat) (c1 : Int32) (c6 : Int32) (c8 : Int32) (K : Int32 → Int32 → HS → Prop) (n : Nat) (m7 : Int32) (m9 : Int32) (S : HS) (H : Heap) (locs : List Loc) (ls : Array Slot), Hx D cs lo s S H locs → lv_has ls 11 [(0, .ref c0), (1, .int c1), (6, .int c6), (7, .int m7), (8, .int c8), (9, .int m9)] → wX5_seam_L166 c0 c1 c6 c8 n m7 m9 S K → (∀ (m7 : Int32) (m9 : Int32) (S : HS) (H : Heap) (locs : List Loc) (ls : Array Slot), Hx D cs lo s S H locs → lv_has ls 11 [(0, .ref c0), (1, .int c1), (6, .int c6), (7, .int m7), (8, .int c8), (9, .int m9)] → K m7 m9 S → W p l e ({ frames := 4, cells := 0, slots := 0, locals := 93 } : Room) s m [.ref a0, .int x1, .int x2].toArray below meth c H locs 0 0 (MQ below (va_Qi Q (fun S' t => hp D cs lo S' t.heap) (fun q => lo ≤ q)) [.ref a0, .int x1, .int x2].toArray s 0 0 (fun q => lo ≤ q)) (F0 m 206 ls [])) → W p l e ({ frames := 4, cells := 0, slots := 0, locals := 93 } : Room) s m [.ref a0, .int x1, .int x2].toArray below meth c H locs 0 0 (MQ below (va_Qi Q (fun S' t => hp D cs lo S' t.heap) (fun q => lo ≤ q)) [.ref a0, .int x1, .int x2].toArray s 0 0 (fun q => lo ≤ q)) (F0 m 166 ls []) := by
    intro c0 c1 c6 c8 K n
    induction n with
    | zero => intro m7 m9 S H locs ls h hl hw hk; exact False.elim hw
    | succ n ih =>
      intro m7 m9 S H locs ls h hl hw hk
      refine lv_iload B.1.1 B.1.2.1 dX5_seam_166 (lv_at hl 5 rfl) ?_
      refine lv_bipush (v := (8 : Int32)) B.1.1 B.1.2.1 dX5_seam_168 (by decide) ?_
      refine lv_icmp_ge (tgt := 206) B.1.1 B.1.2.1 dX5_seam_170 (by decide) (fun hc => ?_) (fun hc => ?_)
      · replace hw := hw.1 hc
        exact hk m7 m9 _ _ _ ls h (lv_sub hl [0, 1, 2, 3, 4, 5] rfl) hw
      · replace hw := hw.2 hc
        refine lv_aload_n B.1.1 B.1.2.1 dX5_seam_173 rfl (lv_at hl 0 rfl) ?_
        refine lv_iload_n B.1.1 B.1.2.1 dX5_seam_174 rfl (lv_at hl 1 rfl) ?_
        refine lv_iload B.1.1 B.1.2.1 dX5_seam_175 (lv_at hl 5 rfl) ?_
        refine lv_iload B.1.1 B.1.2.1 dX5_seam_177 (lv_at hl 4 rfl) ?_
        obtain ⟨hok, hw⟩ := hw
        refine q_callIV B h (met_X5_error l c0 c1 m9 c8) (CB B 3 kC_X5_error kI_RX5 kM_RX5_154 hd_X5_error ⟨Nat.le_of_ble_eq_true rfl, Nat.le_of_ble_eq_true rfl⟩) kO_X5_error kV_X5_error (ci := 5) rfl (by decide) hok.1 hok.2 (rest := []) rfl rfl hl.1 (Nat.le_of_ble_eq_true rfl) dX5_seam_179 ⟨Nat.le_of_ble_eq_true rfl, Nat.le_of_ble_eq_true rfl⟩ hw (fun r5 S5 H locs hw9 h9 => ?_)
        replace hw := hw9
        clear hw9
        replace h := h9
        clear h9
        refine lv_istore (i := 10) (lv' := [(10, .int r5), (0, .ref c0), (1, .int c1), (6, .int c6), (7, .int m7), (8, .int c8), (9, .int m9)]) B.1.1 B.1.2.1 dX5_seam_182 hl (by decide) rfl (fun ls hl9 => ?_)
        replace hl := hl9
        clear hl9
        refine lv_iload B.1.1 B.1.2.1 dX5_seam_184 (lv_at hl 0 rfl) ?_
        refine lv_iload B.1.1 B.1.2.1 dX5_seam_186 (lv_at hl 4 rfl) ?_
        refine lv_icmp_le (tgt := 196) B.1.1 B.1.2.1 dX5_seam_188 (by decide) (fun hc => ?_) (fun hc => ?_)
        · replace hw := hw.1 hc
          refine lv_iload B.1.1 B.1.2.1 dX5_seam_196 (lv_at hl 4 rfl) ?_
          refine lv_istore (i := 7) (lv' := [(7, .int m7), (10, .int r5), (0, .ref c0), (1, .int c1), (6, .int c6), (8, .int c8), (9, .int m9)]) B.1.1 B.1.2.1 dX5_seam_198 hl (by decide) rfl (fun ls hl9 => ?_)
          replace hl := hl9
          clear hl9
          refine lv_iinc (i := 9) (v := (m9 + (1 : Int32))) (lv' := [(9, .int (m9 + (1 : Int32))), (7, .int m7), (10, .int r5), (0, .ref c0), (1, .int c1), (6, .int c6), (8, .int c8)]) B.1.1 B.1.2.1 dX5_seam_200 hl (k := 6) rfl rfl (by decide) rfl (fun ls hl9 => ?_)
          replace hl := hl9
          clear hl9
          refine lv_goto (tgt := 166) B.1.1 B.1.2.1 dX5_seam_203 (by decide) ?_
          exact ih m7 (m9 + (1 : Int32)) _ _ _ ls h (lv_sub hl [3, 4, 5, 1, 6, 0] rfl) hw hk
        · replace hw := hw.2 hc
          refine lv_iload B.1.1 B.1.2.1 dX5_seam_191 (lv_at hl 0 rfl) ?_
          refine lv_goto (tgt := 198) B.1.1 B.1.2.1 dX5_seam_193 (by decide) ?_
          refine lv_istore (i := 7) (lv' := [(7, .int r5), (10, .int r5), (0, .ref c0), (1, .int c1), (6, .int c6), (8, .int c8), (9, .int m9)]) B.1.1 B.1.2.1 dX5_seam_198 hl (by decide) rfl (fun ls hl9 => ?_)
          replace hl := hl9
          clear hl9
          refine lv_iinc (i := 9) (v := (m9 + (1 : Int32))) (lv' := [(9, .int (m9 + (1 : Int32))), (7, .int r5), (10, .int r5), (0, .ref c0), (1, .int c1), (6, .int c6), (8, .int c8)]) B.1.1 B.1.2.1 dX5_seam_200 hl (k := 6) rfl rfl (by decide) rfl (fun ls hl9 => ?_)
          replace hl := hl9
          clear hl9
          refine lv_goto (tgt := 166) B.1.1 B.1.2.1 dX5_seam_203 (by decide) ?_
          exact ih r5 (m9 + (1 : Int32)) _ _ _ ls h (lv_sub hl [3, 4, 5, 1, 6, 0] rfl) hw hk
  have L156 : ∀ (c0 : Nat) (c1 : Int32) (c6 : Int32) (K : Int32 → Int32 → HS → Prop) (n : Nat) (m7 : Int32) (m8 : Int32) (S : HS) (H : Heap) (locs : List Loc) (ls : Array Slot), Hx D cs lo s S H locs → lv_has ls 11 [(0, .ref c0), (1, .int c1), (6, .int c6), (7, .int m7), (8, .int m8)] → wX5_seam_L156 c0 c1 c6 n m7 m8 S K → (∀ (m7 : Int32) (m8 : Int32) (S : HS) (H : Heap) (locs : List Loc) (ls : Array Slot), Hx D cs lo s S H locs → lv_has ls 11 [(0, .ref c0), (1, .int c1), (6, .int c6), (7, .int m7), (8, .int m8)] → K m7 m8 S → W p l e ({ frames := 4, cells := 0, slots := 0, locals := 93 } : Room) s m [.ref a0, .int x1, .int x2].toArray below meth c H locs 0 0 (MQ below (va_Qi Q (fun S' t => hp D cs lo S' t.heap) (fun q => lo ≤ q)) [.ref a0, .int x1, .int x2].toArray s 0 0 (fun q => lo ≤ q)) (F0 m 212 ls [])) → W p l e ({ frames := 4, cells := 0, slots := 0, locals := 93 } : Room) s m [.ref a0, .int x1, .int x2].toArray below meth c H locs 0 0 (MQ below (va_Qi Q (fun S' t => hp D cs lo S' t.heap) (fun q => lo ≤ q)) [.ref a0, .int x1, .int x2].toArray s 0 0 (fun q => lo ≤ q)) (F0 m 156 ls []) := by
    intro c0 c1 c6 K n
    induction n with
    | zero => intro m7 m8 S H locs ls h hl hw hk; exact False.elim hw
    | succ n ih =>
      intro m7 m8 S H locs ls h hl hw hk
      refine lv_iload B.1.1 B.1.2.1 dX5_seam_156 (lv_at hl 4 rfl) ?_
      refine lv_iload B.1.1 B.1.2.1 dX5_seam_158 (lv_at hl 2 rfl) ?_
      refine lv_icmp_ge (tgt := 212) B.1.1 B.1.2.1 dX5_seam_160 (by decide) (fun hc => ?_) (fun hc => ?_)
      · replace hw := hw.1 hc
        exact hk m7 m8 _ _ _ ls h (lv_sub hl [0, 1, 2, 3, 4] rfl) hw
      · replace hw := hw.2 hc
        refine lv_iconst (v := (0 : Int32)) B.1.1 B.1.2.1 dX5_seam_163 (by decide) ?_
        refine lv_istore (i := 9) (lv' := [(9, .int (0 : Int32)), (0, .ref c0), (1, .int c1), (6, .int c6), (7, .int m7), (8, .int m8)]) B.1.1 B.1.2.1 dX5_seam_164 hl (by decide) rfl (fun ls hl9 => ?_)
        replace hl := hl9
        clear hl9
        obtain ⟨n1, hw⟩ := hw
        refine L166 c0 c1 c6 m8 _ n1 m7 (0 : Int32) _ _ _ ls h (lv_sub hl [1, 2, 3, 4, 5, 0] rfl) hw (fun u1 u2 S6 H locs ls h9 hl9 hw9 => ?_)
        replace hw := hw9
        clear hw9
        replace h := h9
        clear h9
        replace hl := hl9
        clear hl9
        refine lv_iinc (i := 8) (v := (m8 + (1 : Int32))) (lv' := [(8, .int (m8 + (1 : Int32))), (0, .ref c0), (1, .int c1), (6, .int c6), (7, .int u1), (9, .int u2)]) B.1.1 B.1.2.1 dX5_seam_206 hl (k := 4) rfl rfl (by decide) rfl (fun ls hl9 => ?_)
        replace hl := hl9
        clear hl9
        refine lv_goto (tgt := 156) B.1.1 B.1.2.1 dX5_seam_209 (by decide) ?_
        exact ih u1 (m8 + (1 : Int32)) _ _ _ ls h (lv_sub hl [1, 2, 3, 4, 0] rfl) hw hk
  have J127 : ∀ (v0 : Nat) (v1 : Int32) (v6 : Int32) (t0 : Int32) (S : HS) (H : Heap) (locs : List Loc) (ls : Array Slot), Hx D cs lo s S H locs → lv_has ls 11 [(0, .ref v0), (1, .int v1), (6, .int v6)] → wX5_seam_J127 v0 v1 v6 t0 S Q → W p l e ({ frames := 4, cells := 0, slots := 0, locals := 93 } : Room) s m [.ref a0, .int x1, .int x2].toArray below meth c H locs 0 0 (MQ below (va_Qi Q (fun S' t => hp D cs lo S' t.heap) (fun q => lo ≤ q)) [.ref a0, .int x1, .int x2].toArray s 0 0 (fun q => lo ≤ q)) (F0 m 127 ls [.int t0]) := by
    intro v0 v1 v6 t0 S H locs ls h hl hw
    refine lv_istore (i := 5) (lv' := [(5, .int t0), (0, .ref v0), (1, .int v1), (6, .int v6)]) B.1.1 B.1.2.1 dX5_seam_127 hl (by decide) rfl (fun ls hl9 => ?_)
    replace hl := hl9
    clear hl9
    refine lv_aload_n B.1.1 B.1.2.1 dX5_seam_129 rfl (lv_at hl 1 rfl) ?_
    obtain ⟨hok, hw⟩ := hw
    refine q_getR B h (ci := 5) (j := 4) (code := 164) rfl inT_5 (by decide) kF_RX5_16 rfl rfl rfl (by decide) dX5_seam_130 hok.1 hok.2 ?_
    obtain ⟨o3, hoo3⟩ : ∃ z, z = gR S 164 v0 := ⟨_, rfl⟩
    rw [← hoo3]
    replace hw := hw o3 hoo3
    refine lv_iload_n B.1.1 B.1.2.1 dX5_seam_133 rfl (lv_at hl 2 rfl) ?_
    obtain ⟨q3, hn, hw⟩ := hw
    subst hn
    replace hl : lv_has ls 11 [(5, .int t0), (0, .ref v0), (1, .int v1), (6, .int v6)] := hl
    obtain ⟨hok, hin9, hw⟩ := hw
    refine q_iald B h dX5_seam_134 hok.1 hok.2 hin9 ?_
    refine lv_if_ne (tgt := 145) B.1.1 B.1.2.1 dX5_seam_135 (by decide) (fun hc => ?_) (fun hc => ?_)
    · replace hw := hw.1 hc
      refine lv_iload B.1.1 B.1.2.1 dX5_seam_145 (lv_at hl 3 rfl) ?_
      refine lv_istore (i := 6) (lv' := [(6, .int v6), (5, .int t0), (0, .ref v0), (1, .int v1)]) B.1.1 B.1.2.1 dX5_seam_147 hl (by decide) rfl (fun ls hl9 => ?_)
      replace hl := hl9
      clear hl9
      refine lv_iconst (v := (0 : Int32)) B.1.1 B.1.2.1 dX5_seam_149 (by decide) ?_
      refine lv_istore (i := 7) (lv' := [(7, .int (0 : Int32)), (6, .int v6), (5, .int t0), (0, .ref v0), (1, .int v1)]) B.1.1 B.1.2.1 dX5_seam_150 hl (by decide) rfl (fun ls hl9 => ?_)
      replace hl := hl9
      clear hl9
      refine lv_iload B.1.1 B.1.2.1 dX5_seam_152 (lv_at hl 2 rfl) ?_
      refine lv_istore (i := 8) (lv' := [(8, .int t0), (7, .int (0 : Int32)), (6, .int v6), (5, .int t0), (0, .ref v0), (1, .int v1)]) B.1.1 B.1.2.1 dX5_seam_154 hl (by decide) rfl (fun ls hl9 => ?_)
      replace hl := hl9
      clear hl9
      obtain ⟨n2, hw⟩ := hw
      refine L156 v0 v1 v6 _ n2 (0 : Int32) t0 _ _ _ ls h (lv_sub hl [4, 5, 2, 1, 0] rfl) hw (fun u3 u4 S7 H locs ls h9 hl9 hw9 => ?_)
      replace hw := hw9
      clear hw9
      replace h := h9
      clear h9
      replace hl := hl9
      clear hl9
      refine lv_iload B.1.1 B.1.2.1 dX5_seam_212 (lv_at hl 3 rfl) ?_
      exact q_iret B hr hlk h hw dX5_seam_214 (Nat.le_of_ble_eq_true rfl) (Nat.le_of_ble_eq_true rfl)
    · replace hw := hw.2 hc
      refine lv_iload B.1.1 B.1.2.1 dX5_seam_138 (lv_at hl 3 rfl) ?_
      refine lv_iconst (v := (1 : Int32)) B.1.1 B.1.2.1 dX5_seam_140 (by decide) ?_
      refine lv_iadd B.1.1 B.1.2.1 dX5_seam_141 ?_
      refine lv_goto (tgt := 147) B.1.1 B.1.2.1 dX5_seam_142 (by decide) ?_
      refine lv_istore (i := 6) (lv' := [(6, .int (v6 + (1 : Int32))), (5, .int t0), (0, .ref v0), (1, .int v1)]) B.1.1 B.1.2.1 dX5_seam_147 hl (by decide) rfl (fun ls hl9 => ?_)
      replace hl := hl9
      clear hl9
      refine lv_iconst (v := (0 : Int32)) B.1.1 B.1.2.1 dX5_seam_149 (by decide) ?_
      refine lv_istore (i := 7) (lv' := [(7, .int (0 : Int32)), (6, .int (v6 + (1 : Int32))), (5, .int t0), (0, .ref v0), (1, .int v1)]) B.1.1 B.1.2.1 dX5_seam_150 hl (by decide) rfl (fun ls hl9 => ?_)
      replace hl := hl9
      clear hl9
      refine lv_iload B.1.1 B.1.2.1 dX5_seam_152 (lv_at hl 2 rfl) ?_
      refine lv_istore (i := 8) (lv' := [(8, .int t0), (7, .int (0 : Int32)), (6, .int (v6 + (1 : Int32))), (5, .int t0), (0, .ref v0), (1, .int v1)]) B.1.1 B.1.2.1 dX5_seam_154 hl (by decide) rfl (fun ls hl9 => ?_)
      replace hl := hl9
      clear hl9
      obtain ⟨n3, hw⟩ := hw
      refine L156 v0 v1 (v6 + (1 : Int32)) _ n3 (0 : Int32) t0 _ _ _ ls h (lv_sub hl [4, 5, 2, 1, 0] rfl) hw (fun u5 u6 S8 H locs ls h9 hl9 hw9 => ?_)
      replace hw := hw9
      clear hw9
      replace h := h9
      clear h9
      replace hl := hl9
      clear hl9
      refine lv_iload B.1.1 B.1.2.1 dX5_seam_212 (lv_at hl 3 rfl) ?_
      exact q_iret B hr hlk h hw dX5_seam_214 (Nat.le_of_ble_eq_true rfl) (Nat.le_of_ble_eq_true rfl)
  have J83 : ∀ (v0 : Nat) (v1 : Int32) (v2 : Int32) (t0 : Int32) (t1 : Nat) (S : HS) (H : Heap) (locs : List Loc) (ls : Array Slot), Hx D cs lo s S H locs → lv_has ls 11 [(0, .ref v0), (1, .int v1), (2, .int v2)] → wX5_seam_J83 v0 v1 v2 t0 t1 S Q → W p l e ({ frames := 4, cells := 0, slots := 0, locals := 93 } : Room) s m [.ref a0, .int x1, .int x2].toArray below meth c H locs 0 0 (MQ below (va_Qi Q (fun S' t => hp D cs lo S' t.heap) (fun q => lo ≤ q)) [.ref a0, .int x1, .int x2].toArray s 0 0 (fun q => lo ≤ q)) (F0 m 83 ls [.int t0, .ref t1]) := by
    intro v0 v1 v2 t0 t1 S H locs ls h hl hw
    obtain ⟨hok, hw⟩ := hw
    refine q_callIV B h (met_X5_fails l t1 t0) (CB B 1 kC_X5_fails kI_RX5 kM_RX5_91 hd_X5_fails ⟨Nat.le_of_ble_eq_true rfl, Nat.le_of_ble_eq_true rfl⟩) kO_X5_fails kV_X5_fails (ci := 5) rfl (by decide) hok.1 hok.2 (rest := []) rfl rfl hl.1 (Nat.le_of_ble_eq_true rfl) dX5_seam_83 ⟨Nat.le_of_ble_eq_true rfl, Nat.le_of_ble_eq_true rfl⟩ hw (fun r2 S2 H locs hw9 h9 => ?_)
    replace hw := hw9
    clear hw9
    replace h := h9
    clear h9
    refine lv_if_eq (tgt := 91) B.1.1 B.1.2.1 dX5_seam_86 (by decide) (fun hc => ?_) (fun hc => ?_)
    · replace hw := hw.1 hc
      refine lv_aload_n B.1.1 B.1.2.1 dX5_seam_91 rfl (lv_at hl 0 rfl) ?_
      refine lv_iload_n B.1.1 B.1.2.1 dX5_seam_92 rfl (lv_at hl 1 rfl) ?_
      refine lv_iload_n B.1.1 B.1.2.1 dX5_seam_93 rfl (lv_at hl 2 rfl) ?_
      refine lv_iconst (v := (1 : Int32)) B.1.1 B.1.2.1 dX5_seam_94 (by decide) ?_
      refine lv_iadd B.1.1 B.1.2.1 dX5_seam_95 ?_
      obtain ⟨hok, hw⟩ := hw
      refine q_callIV B h (met_X5_first l v0 v1 (v2 + (1 : Int32))) (CB B 2 kC_X5_first kI_RX5 kM_RX5_84 hd_X5_first ⟨Nat.le_of_ble_eq_true rfl, Nat.le_of_ble_eq_true rfl⟩) kO_X5_first kV_X5_first (ci := 5) rfl (by decide) hok.1 hok.2 (rest := []) rfl rfl hl.1 (Nat.le_of_ble_eq_true rfl) dX5_seam_96 ⟨Nat.le_of_ble_eq_true rfl, Nat.le_of_ble_eq_true rfl⟩ hw (fun r3 S3 H locs hw9 h9 => ?_)
      replace hw := hw9
      clear hw9
      replace h := h9
      clear h9
      refine lv_istore (i := 5) (lv' := [(5, .int r3), (0, .ref v0), (1, .int v1), (2, .int v2)]) B.1.1 B.1.2.1 dX5_seam_99 hl (by decide) rfl (fun ls hl9 => ?_)
      replace hl := hl9
      clear hl9
      refine lv_aload_n B.1.1 B.1.2.1 dX5_seam_101 rfl (lv_at hl 1 rfl) ?_
      refine lv_iload_n B.1.1 B.1.2.1 dX5_seam_102 rfl (lv_at hl 2 rfl) ?_
      refine lv_iload_n B.1.1 B.1.2.1 dX5_seam_103 rfl (lv_at hl 3 rfl) ?_
      obtain ⟨hok, hw⟩ := hw
      refine q_callIV B h (met_X5_end l v0 v1 v2) (CB B 2 kC_X5_end kI_RX5 kM_RX5_88 hd_X5_end ⟨Nat.le_of_ble_eq_true rfl, Nat.le_of_ble_eq_true rfl⟩) kO_X5_end kV_X5_end (ci := 5) rfl (by decide) hok.1 hok.2 (rest := []) rfl rfl hl.1 (Nat.le_of_ble_eq_true rfl) dX5_seam_104 ⟨Nat.le_of_ble_eq_true rfl, Nat.le_of_ble_eq_true rfl⟩ hw (fun r4 S4 H locs hw9 h9 => ?_)
      replace hw := hw9
      clear hw9
      replace h := h9
      clear h9
      refine lv_istore (i := 6) (lv' := [(6, .int r4), (5, .int r3), (0, .ref v0), (1, .int v1), (2, .int v2)]) B.1.1 B.1.2.1 dX5_seam_107 hl (by decide) rfl (fun ls hl9 => ?_)
      replace hl := hl9
      clear hl9
      refine lv_aload_n B.1.1 B.1.2.1 dX5_seam_109 rfl (lv_at hl 2 rfl) ?_
      obtain ⟨hok, hw⟩ := hw
      refine q_getR B h (ci := 5) (j := 4) (code := 164) rfl inT_5 (by decide) kF_RX5_16 rfl rfl rfl (by decide) dX5_seam_110 hok.1 hok.2 ?_
      obtain ⟨o2, hoo2⟩ : ∃ z, z = gR S4 164 v0 := ⟨_, rfl⟩
      rw [← hoo2]
      replace hw := hw o2 hoo2
      refine lv_iload_n B.1.1 B.1.2.1 dX5_seam_113 rfl (lv_at hl 3 rfl) ?_
      obtain ⟨q2, hn, hw⟩ := hw
      subst hn
      replace hl : lv_has ls 11 [(6, .int r4), (5, .int r3), (0, .ref v0), (1, .int v1), (2, .int v2)] := hl
      obtain ⟨hok, hin9, hw⟩ := hw
      refine q_iald B h dX5_seam_114 hok.1 hok.2 hin9 ?_
      refine lv_if_ne (tgt := 125) B.1.1 B.1.2.1 dX5_seam_115 (by decide) (fun hc => ?_) (fun hc => ?_)
      · replace hw := hw.1 hc
        refine lv_iload B.1.1 B.1.2.1 dX5_seam_125 (lv_at hl 1 rfl) ?_
        exact J127 v0 v1 r4 r3 _ _ _ ls h (lv_sub hl [2, 3, 0] rfl) hw
      · replace hw := hw.2 hc
        refine lv_iload B.1.1 B.1.2.1 dX5_seam_118 (lv_at hl 1 rfl) ?_
        refine lv_iconst (v := (1 : Int32)) B.1.1 B.1.2.1 dX5_seam_120 (by decide) ?_
        refine lv_isub B.1.1 B.1.2.1 dX5_seam_121 ?_
        refine lv_goto (tgt := 127) B.1.1 B.1.2.1 dX5_seam_122 (by decide) ?_
        exact J127 v0 v1 r4 (r3 - (1 : Int32)) _ _ _ ls h (lv_sub hl [2, 3, 0] rfl) hw
    · replace hw := hw.2 hc
      refine lv_iconst (v := (0 : Int32)) B.1.1 B.1.2.1 dX5_seam_89 (by decide) ?_
      exact q_iret B hr hlk h hw dX5_seam_90 (Nat.le_of_ble_eq_true rfl) (Nat.le_of_ble_eq_true rfl)
  have J78 : ∀ (v0 : Nat) (v1 : Int32) (v2 : Int32) (t0 : Nat) (S : HS) (H : Heap) (locs : List Loc) (ls : Array Slot), Hx D cs lo s S H locs → lv_has ls 11 [(0, .ref v0), (1, .int v1), (2, .int v2)] → wX5_seam_J78 v0 v1 v2 t0 S Q → W p l e ({ frames := 4, cells := 0, slots := 0, locals := 93 } : Room) s m [.ref a0, .int x1, .int x2].toArray below meth c H locs 0 0 (MQ below (va_Qi Q (fun S' t => hp D cs lo S' t.heap) (fun q => lo ≤ q)) [.ref a0, .int x1, .int x2].toArray s 0 0 (fun q => lo ≤ q)) (F0 m 78 ls [.ref t0]) := by
    intro v0 v1 v2 t0 S H locs ls h hl hw
    refine lv_iconst (v := (2 : Int32)) B.1.1 B.1.2.1 dX5_seam_78 (by decide) ?_
    refine lv_goto (tgt := 83) B.1.1 B.1.2.1 dX5_seam_79 (by decide) ?_
    exact J83 v0 v1 v2 (2 : Int32) t0 _ _ _ ls h (lv_sub hl [0, 1, 2] rfl) hw
  have J43 : ∀ (v0 : Nat) (v1 : Int32) (v2 : Int32) (v3 : Int32) (t0 : Int32) (S : HS) (H : Heap) (locs : List Loc) (ls : Array Slot), Hx D cs lo s S H locs → lv_has ls 11 [(0, .ref v0), (1, .int v1), (2, .int v2), (3, .int v3)] → wX5_seam_J43 v0 v1 v2 v3 t0 S Q → W p l e ({ frames := 4, cells := 0, slots := 0, locals := 93 } : Room) s m [.ref a0, .int x1, .int x2].toArray below meth c H locs 0 0 (MQ below (va_Qi Q (fun S' t => hp D cs lo S' t.heap) (fun q => lo ≤ q)) [.ref a0, .int x1, .int x2].toArray s 0 0 (fun q => lo ≤ q)) (F0 m 43 ls [.int t0]) := by
    intro v0 v1 v2 v3 t0 S H locs ls h hl hw
    refine lv_istore (i := 4) (lv' := [(4, .int t0), (0, .ref v0), (1, .int v1), (2, .int v2), (3, .int v3)]) B.1.1 B.1.2.1 dX5_seam_43 hl (by decide) rfl (fun ls hl9 => ?_)
    replace hl := hl9
    clear hl9
    refine lv_aload_n B.1.1 B.1.2.1 dX5_seam_45 rfl (lv_at hl 1 rfl) ?_
    refine lv_iload_n B.1.1 B.1.2.1 dX5_seam_46 rfl (lv_at hl 4 rfl) ?_
    refine lv_if_ne (tgt := 54) B.1.1 B.1.2.1 dX5_seam_47 (by decide) (fun hc => ?_) (fun hc => ?_)
    · replace hw := hw.1 hc
      refine lv_aload_n B.1.1 B.1.2.1 dX5_seam_54 rfl (lv_at hl 1 rfl) ?_
      obtain ⟨hok, hw⟩ := hw
      refine q_getR B h (ci := 5) (j := 10) (code := 170) rfl inT_5 (by decide) kF_RX5_34 rfl rfl rfl (by decide) dX5_seam_55 hok.1 hok.2 ?_
      obtain ⟨o1, hoo1⟩ : ∃ z, z = gR S 170 v0 := ⟨_, rfl⟩
      rw [← hoo1]
      replace hw := hw o1 hoo1
      refine lv_iload B.1.1 B.1.2.1 dX5_seam_58 (lv_at hl 0 rfl) ?_
      obtain ⟨q1, hn, hw⟩ := hw
      subst hn
      replace hl : lv_has ls 11 [(4, .int t0), (0, .ref v0), (1, .int v1), (2, .int v2), (3, .int v3)] := hl
      obtain ⟨hok, hin9, hw⟩ := hw
      refine q_iald B h dX5_seam_60 hok.1 hok.2 hin9 ?_
      refine lv_iconst (v := (-1 : Int32)) B.1.1 B.1.2.1 dX5_seam_61 (by decide) ?_
      refine lv_icmp_eq (tgt := 78) B.1.1 B.1.2.1 dX5_seam_62 (by decide) (fun hc => ?_) (fun hc => ?_)
      · replace hw := hw.1 hc
        exact J78 v0 v1 v2 v0 _ _ _ ls h (lv_sub hl [1, 2, 3] rfl) hw
      · replace hw := hw.2 hc
        refine lv_aload_n B.1.1 B.1.2.1 dX5_seam_65 rfl (lv_at hl 1 rfl) ?_
        obtain ⟨hok, hw⟩ := hw
        refine q_getR B h (ci := 5) (j := 10) (code := 170) rfl inT_5 (by decide) kF_RX5_34 rfl rfl rfl (by decide) dX5_seam_66 hok.1 hok.2 ?_
        obtain ⟨o4, hoo4⟩ : ∃ z, z = gR S 170 v0 := ⟨_, rfl⟩
        rw [← hoo4]
        replace hw := hw o4 hoo4
        refine lv_iload B.1.1 B.1.2.1 dX5_seam_69 (lv_at hl 0 rfl) ?_
        refine lv_iconst (v := (1 : Int32)) B.1.1 B.1.2.1 dX5_seam_71 (by decide) ?_
        refine lv_iadd B.1.1 B.1.2.1 dX5_seam_72 ?_
        obtain ⟨q4, hn, hw⟩ := hw
        subst hn
        replace hl : lv_has ls 11 [(4, .int t0), (0, .ref v0), (1, .int v1), (2, .int v2), (3, .int v3)] := hl
        obtain ⟨hok, hin9, hw⟩ := hw
        refine q_iald B h dX5_seam_73 hok.1 hok.2 hin9 ?_
        refine lv_iconst (v := (-1 : Int32)) B.1.1 B.1.2.1 dX5_seam_74 (by decide) ?_
        refine lv_icmp_ne (tgt := 82) B.1.1 B.1.2.1 dX5_seam_75 (by decide) (fun hc => ?_) (fun hc => ?_)
        · replace hw := hw.1 hc
          refine lv_iconst (v := (0 : Int32)) B.1.1 B.1.2.1 dX5_seam_82 (by decide) ?_
          exact J83 v0 v1 v2 (0 : Int32) v0 _ _ _ ls h (lv_sub hl [1, 2, 3] rfl) hw
        · replace hw := hw.2 hc
          exact J78 v0 v1 v2 v0 _ _ _ ls h (lv_sub hl [1, 2, 3] rfl) hw
    · replace hw := hw.2 hc
      refine lv_iconst (v := (1 : Int32)) B.1.1 B.1.2.1 dX5_seam_50 (by decide) ?_
      refine lv_goto (tgt := 83) B.1.1 B.1.2.1 dX5_seam_51 (by decide) ?_
      exact J83 v0 v1 v2 (1 : Int32) v0 _ _ _ ls h (lv_sub hl [1, 2, 3] rfl) hw
  have J28 : ∀ (v0 : Nat) (v1 : Int32) (v2 : Int32) (t0 : Int32) (S : HS) (H : Heap) (locs : List Loc) (ls : Array Slot), Hx D cs lo s S H locs → lv_has ls 11 [(0, .ref v0), (1, .int v1), (2, .int v2)] → wX5_seam_J28 v0 v1 v2 t0 S Q → W p l e ({ frames := 4, cells := 0, slots := 0, locals := 93 } : Room) s m [.ref a0, .int x1, .int x2].toArray below meth c H locs 0 0 (MQ below (va_Qi Q (fun S' t => hp D cs lo S' t.heap) (fun q => lo ≤ q)) [.ref a0, .int x1, .int x2].toArray s 0 0 (fun q => lo ≤ q)) (F0 m 28 ls [.int t0]) := by
    intro v0 v1 v2 t0 S H locs ls h hl hw
    refine lv_istore_n (i := 3) (lv' := [(3, .int t0), (0, .ref v0), (1, .int v1), (2, .int v2)]) B.1.1 B.1.2.1 dX5_seam_28 rfl hl (by decide) rfl (fun ls hl9 => ?_)
    replace hl := hl9
    clear hl9
    refine lv_iload_n B.1.1 B.1.2.1 dX5_seam_29 rfl (lv_at hl 0 rfl) ?_
    refine lv_if_eq (tgt := 42) B.1.1 B.1.2.1 dX5_seam_30 (by decide) (fun hc => ?_) (fun hc => ?_)
    · replace hw := hw.1 hc
      refine lv_iconst (v := (0 : Int32)) B.1.1 B.1.2.1 dX5_seam_42 (by decide) ?_
      exact J43 v0 v1 v2 t0 (0 : Int32) _ _ _ ls h (lv_sub hl [1, 2, 3, 0] rfl) hw
    · replace hw := hw.2 hc
      refine lv_bipush (v := (16 : Int32)) B.1.1 B.1.2.1 dX5_seam_33 (by decide) ?_
      refine lv_iload_n B.1.1 B.1.2.1 dX5_seam_35 rfl (lv_at hl 2 rfl) ?_
      refine lv_imul B.1.1 B.1.2.1 dX5_seam_36 ?_
      refine lv_iload_n B.1.1 B.1.2.1 dX5_seam_37 rfl (lv_at hl 3 rfl) ?_
      refine lv_iadd B.1.1 B.1.2.1 dX5_seam_38 ?_
      refine lv_goto (tgt := 43) B.1.1 B.1.2.1 dX5_seam_39 (by decide) ?_
      exact J43 v0 v1 v2 t0 (((16 : Int32) * v1) + v2) _ _ _ ls h (lv_sub hl [1, 2, 3, 0] rfl) hw
  have J27 : ∀ (v0 : Nat) (v1 : Int32) (v2 : Int32) (S : HS) (H : Heap) (locs : List Loc) (ls : Array Slot), Hx D cs lo s S H locs → lv_has ls 11 [(0, .ref v0), (1, .int v1), (2, .int v2)] → wX5_seam_J27 v0 v1 v2 S Q → W p l e ({ frames := 4, cells := 0, slots := 0, locals := 93 } : Room) s m [.ref a0, .int x1, .int x2].toArray below meth c H locs 0 0 (MQ below (va_Qi Q (fun S' t => hp D cs lo S' t.heap) (fun q => lo ≤ q)) [.ref a0, .int x1, .int x2].toArray s 0 0 (fun q => lo ≤ q)) (F0 m 27 ls []) := by
    intro v0 v1 v2 S H locs ls h hl hw
    refine lv_iconst (v := (0 : Int32)) B.1.1 B.1.2.1 dX5_seam_27 (by decide) ?_
    exact J28 v0 v1 v2 (0 : Int32) _ _ _ ls h (lv_sub hl [0, 1, 2] rfl) hw
  intro h hl hw
  replace hl : lv_has ls 11 [(0, .ref a0), (1, .int x1), (2, .int x2)] := hl
  refine lv_aload_n B.1.1 B.1.2.1 dX5_seam_0 rfl (lv_at hl 0 rfl) ?_
  refine lv_iload_n B.1.1 B.1.2.1 dX5_seam_1 rfl (lv_at hl 1 rfl) ?_
  obtain ⟨hok, hw⟩ := hw
  refine q_callIV B h (met_X5_isBanner l a0 x1) (CB B 1 kC_X5_isBanner kI_RX5 kM_RX5_73 hd_X5_isBanner ⟨Nat.le_of_ble_eq_true rfl, Nat.le_of_ble_eq_true rfl⟩) kO_X5_isBanner kV_X5_isBanner (ci := 5) rfl (by decide) hok.1 hok.2 (rest := []) rfl rfl hl.1 (Nat.le_of_ble_eq_true rfl) dX5_seam_2 ⟨Nat.le_of_ble_eq_true rfl, Nat.le_of_ble_eq_true rfl⟩ hw (fun r1 S1 H locs hw9 h9 => ?_)
  replace hw := hw9
  clear hw9
  replace h := h9
  clear h9
  refine lv_if_eq (tgt := 27) B.1.1 B.1.2.1 dX5_seam_5 (by decide) (fun hc => ?_) (fun hc => ?_)
  · replace hw := hw.1 hc
    exact J27 a0 x1 x2 _ _ _ ls h (lv_sub hl [0, 1, 2] rfl) hw
  · replace hw := hw.2 hc
    refine lv_iload_n B.1.1 B.1.2.1 dX5_seam_8 rfl (lv_at hl 2 rfl) ?_
    refine lv_iconst (v := (0 : Int32)) B.1.1 B.1.2.1 dX5_seam_9 (by decide) ?_
    refine lv_aload_n B.1.1 B.1.2.1 dX5_seam_10 rfl (lv_at hl 0 rfl) ?_
    refine lv_iload_n B.1.1 B.1.2.1 dX5_seam_11 rfl (lv_at hl 1 rfl) ?_
    obtain ⟨hok, hw⟩ := hw
    refine q_callIV B h (met_X5_stripsOf l a0 x1) (CB B 1 kC_X5_stripsOf kI_RX5 kM_RX5_77 hd_X5_stripsOf ⟨Nat.le_of_ble_eq_true rfl, Nat.le_of_ble_eq_true rfl⟩) kO_X5_stripsOf kV_X5_stripsOf (ci := 5) rfl (by decide) hok.1 hok.2 (rest := [.int (0 : Int32), .int x2]) rfl rfl hl.1 (Nat.le_of_ble_eq_true rfl) dX5_seam_12 ⟨Nat.le_of_ble_eq_true rfl, Nat.le_of_ble_eq_true rfl⟩ hw (fun r6 S9 H locs hw9 h9 => ?_)
    replace hw := hw9
    clear hw9
    replace h := h9
    clear h9
    refine lv_iconst (v := (2 : Int32)) B.1.1 B.1.2.1 dX5_seam_15 (by decide) ?_
    refine lv_isub B.1.1 B.1.2.1 dX5_seam_16 ?_
    refine q_callIS B h (met_X5_isIn l x2 (0 : Int32) (r6 - (2 : Int32))) (CB B 3 kC_X5_isIn kI_RX5 kM_RX5_69 hd_X5_isIn ⟨Nat.le_of_ble_eq_true rfl, Nat.le_of_ble_eq_true rfl⟩) kS_X5_isIn (rest := []) rfl rfl hl.1 (Nat.le_of_ble_eq_true rfl) dX5_seam_17 ⟨Nat.le_of_ble_eq_true rfl, Nat.le_of_ble_eq_true rfl⟩ hw (fun r7 S10 H locs hw9 h9 => ?_)
    replace hw := hw9
    clear hw9
    replace h := h9
    clear h9
    refine lv_if_eq (tgt := 27) B.1.1 B.1.2.1 dX5_seam_20 (by decide) (fun hc => ?_) (fun hc => ?_)
    · replace hw := hw.1 hc
      exact J27 a0 x1 x2 _ _ _ ls h (lv_sub hl [0, 1, 2] rfl) hw
    · replace hw := hw.2 hc
      refine lv_iconst (v := (1 : Int32)) B.1.1 B.1.2.1 dX5_seam_23 (by decide) ?_
      refine lv_goto (tgt := 28) B.1.1 B.1.2.1 dX5_seam_24 (by decide) ?_
      exact J28 a0 x1 x2 (1 : Int32) _ _ _ ls h (lv_sub hl [0, 1, 2] rfl) hw
set_option maxHeartbeats 4000000 in
set_option maxRecDepth 100000 in
theorem met_X5_meanError (l : Launch) (a0 : Nat) (x1 : Int32) : MF l yX5_meanError cX5_meanError 4 (some .float) 4 93 0 0 [.ref a0, .int x1] (wX5_meanError a0 x1) := by
  refine MF.of (by decide) (Nat.le_of_ble_eq_true rfl) ?_
  intro p e s m below meth c D cs lo S Q ls B hr hlk hin
  have L26 : ∀ (c0 : Nat) (c1 : Int32) (K : Int32 → Int32 → HS → Prop) (n : Nat) (m2 : Int32) (m3 : Int32) (S : HS) (H : Heap) (locs : List Loc) (ls : Array Slot), Hx D cs lo s S H locs → lv_has ls 4 [(0, .ref c0), (1, .int c1), (2, .int m2), (3, .int m3)] → wX5_meanError_L26 c0 c1 n m2 m3 S K → (∀ (m2 : Int32) (m3 : Int32) (S : HS) (H : Heap) (locs : List Loc) (ls : Array Slot), Hx D cs lo s S H locs → lv_has ls 4 [(0, .ref c0), (1, .int c1), (2, .int m2), (3, .int m3)] → K m2 m3 S → W p l e ({ frames := 4, cells := 0, slots := 0, locals := 93 } : Room) s m [.ref a0, .int x1].toArray below meth c H locs 0 0 (MQ below (va_Qf Q (fun S' t => hp D cs lo S' t.heap) (fun q => lo ≤ q)) [.ref a0, .int x1].toArray s 0 0 (fun q => lo ≤ q)) (F0 m 61 ls [])) → W p l e ({ frames := 4, cells := 0, slots := 0, locals := 93 } : Room) s m [.ref a0, .int x1].toArray below meth c H locs 0 0 (MQ below (va_Qf Q (fun S' t => hp D cs lo S' t.heap) (fun q => lo ≤ q)) [.ref a0, .int x1].toArray s 0 0 (fun q => lo ≤ q)) (F0 m 26 ls []) := by
    intro c0 c1 K n
    induction n with
    | zero => intro m2 m3 S H locs ls h hl hw hk; exact False.elim hw
    | succ n ih =>
      intro m2 m3 S H locs ls h hl hw hk
      refine lv_iload_n B.1.1 B.1.2.1 dX5_meanError_26 rfl (lv_at hl 3 rfl) ?_
      refine lv_bipush (v := (8 : Int32)) B.1.1 B.1.2.1 dX5_meanError_27 (by decide) ?_
      refine lv_aload_n B.1.1 B.1.2.1 dX5_meanError_29 rfl (lv_at hl 0 rfl) ?_
      obtain ⟨hok, hw⟩ := hw
      refine q_getR B h (ci := 5) (j := 2) (code := 162) rfl inT_5 (by decide) kF_RX5_7 rfl rfl rfl (by decide) dX5_meanError_30 hok.1 hok.2 ?_
      obtain ⟨o1, hoo1⟩ : ∃ z, z = gR S 162 c0 := ⟨_, rfl⟩
      rw [← hoo1]
      replace hw := hw o1 hoo1
      refine lv_iload_n B.1.1 B.1.2.1 dX5_meanError_33 rfl (lv_at hl 1 rfl) ?_
      obtain ⟨q1, hn, hw⟩ := hw
      subst hn
      replace hl : lv_has ls 4 [(0, .ref c0), (1, .int c1), (2, .int m2), (3, .int m3)] := hl
      obtain ⟨hok, hin9, hw⟩ := hw
      refine q_iald B h dX5_meanError_34 hok.1 hok.2 hin9 ?_
      refine lv_imul B.1.1 B.1.2.1 dX5_meanError_35 ?_
      refine lv_icmp_ge (tgt := 61) B.1.1 B.1.2.1 dX5_meanError_36 (by decide) (fun hc => ?_) (fun hc => ?_)
      · replace hw := hw.1 hc
        exact hk m2 m3 _ _ _ ls h (lv_sub hl [0, 1, 2, 3] rfl) hw
      · replace hw := hw.2 hc
        refine lv_iload_n B.1.1 B.1.2.1 dX5_meanError_39 rfl (lv_at hl 2 rfl) ?_
        refine lv_aload_n B.1.1 B.1.2.1 dX5_meanError_40 rfl (lv_at hl 0 rfl) ?_
        refine lv_iload_n B.1.1 B.1.2.1 dX5_meanError_41 rfl (lv_at hl 1 rfl) ?_
        refine lv_iload_n B.1.1 B.1.2.1 dX5_meanError_42 rfl (lv_at hl 3 rfl) ?_
        refine lv_bipush (v := (8 : Int32)) B.1.1 B.1.2.1 dX5_meanError_43 (by decide) ?_
        refine lv_irem B.1.1 B.1.2.1 dX5_meanError_45 (by decide) ?_
        refine lv_iload_n B.1.1 B.1.2.1 dX5_meanError_46 rfl (lv_at hl 3 rfl) ?_
        refine lv_bipush (v := (8 : Int32)) B.1.1 B.1.2.1 dX5_meanError_47 (by decide) ?_
        refine lv_idiv B.1.1 B.1.2.1 dX5_meanError_49 (by decide) ?_
        obtain ⟨hok, hw⟩ := hw
        refine q_callIV B h (met_X5_error l c0 c1 (m3 - m3 / (8 : Int32) * (8 : Int32)) (m3 / (8 : Int32))) (CB B 3 kC_X5_error kI_RX5 kM_RX5_154 hd_X5_error ⟨Nat.le_of_ble_eq_true rfl, Nat.le_of_ble_eq_true rfl⟩) kO_X5_error kV_X5_error (ci := 5) rfl (by decide) hok.1 hok.2 (rest := [.int m2]) rfl rfl hl.1 (Nat.le_of_ble_eq_true rfl) dX5_meanError_50 ⟨Nat.le_of_ble_eq_true rfl, Nat.le_of_ble_eq_true rfl⟩ hw (fun r3 S3 H locs hw9 h9 => ?_)
        replace hw := hw9
        clear hw9
        replace h := h9
        clear h9
        refine lv_iadd B.1.1 B.1.2.1 dX5_meanError_53 ?_
        refine lv_istore_n (i := 2) (lv' := [(2, .int (m2 + r3)), (0, .ref c0), (1, .int c1), (3, .int m3)]) B.1.1 B.1.2.1 dX5_meanError_54 rfl hl (by decide) rfl (fun ls hl9 => ?_)
        replace hl := hl9
        clear hl9
        refine lv_iinc (i := 3) (v := (m3 + (1 : Int32))) (lv' := [(3, .int (m3 + (1 : Int32))), (2, .int (m2 + r3)), (0, .ref c0), (1, .int c1)]) B.1.1 B.1.2.1 dX5_meanError_55 hl (k := 3) rfl rfl (by decide) rfl (fun ls hl9 => ?_)
        replace hl := hl9
        clear hl9
        refine lv_goto (tgt := 26) B.1.1 B.1.2.1 dX5_meanError_58 (by decide) ?_
        exact ih (m2 + r3) (m3 + (1 : Int32)) _ _ _ ls h (lv_sub hl [2, 3, 1, 0] rfl) hw hk
  intro h hl hw
  replace hl : lv_has ls 4 [(0, .ref a0), (1, .int x1)] := hl
  refine lv_aload_n B.1.1 B.1.2.1 dX5_meanError_0 rfl (lv_at hl 0 rfl) ?_
  refine lv_aload_n B.1.1 B.1.2.1 dX5_meanError_1 rfl (lv_at hl 0 rfl) ?_
  refine lv_iload_n B.1.1 B.1.2.1 dX5_meanError_2 rfl (lv_at hl 1 rfl) ?_
  obtain ⟨hok, hw⟩ := hw
  refine q_callIV B h (met_X5_isBanner l a0 x1) (CB B 1 kC_X5_isBanner kI_RX5 kM_RX5_73 hd_X5_isBanner ⟨Nat.le_of_ble_eq_true rfl, Nat.le_of_ble_eq_true rfl⟩) kO_X5_isBanner kV_X5_isBanner (ci := 5) rfl (by decide) hok.1 hok.2 (rest := [.ref a0]) rfl rfl hl.1 (Nat.le_of_ble_eq_true rfl) dX5_meanError_3 ⟨Nat.le_of_ble_eq_true rfl, Nat.le_of_ble_eq_true rfl⟩ hw (fun r1 S1 H locs hw9 h9 => ?_)
  replace hw := hw9
  clear hw9
  replace h := h9
  clear h9
  refine lv_if_eq (tgt := 13) B.1.1 B.1.2.1 dX5_meanError_6 (by decide) (fun hc => ?_) (fun hc => ?_)
  · replace hw := hw.1 hc
    refine lv_iconst (v := (1 : Int32)) B.1.1 B.1.2.1 dX5_meanError_13 (by decide) ?_
    obtain ⟨hok, hw⟩ := hw
    refine q_callIV B h (met_X5_fails l a0 (1 : Int32)) (CB B 1 kC_X5_fails kI_RX5 kM_RX5_91 hd_X5_fails ⟨Nat.le_of_ble_eq_true rfl, Nat.le_of_ble_eq_true rfl⟩) kO_X5_fails kV_X5_fails (ci := 5) rfl (by decide) hok.1 hok.2 (rest := []) rfl rfl hl.1 (Nat.le_of_ble_eq_true rfl) dX5_meanError_14 ⟨Nat.le_of_ble_eq_true rfl, Nat.le_of_ble_eq_true rfl⟩ hw (fun r2 S2 H locs hw9 h9 => ?_)
    replace hw := hw9
    clear hw9
    replace h := h9
    clear h9
    refine lv_if_eq (tgt := 22) B.1.1 B.1.2.1 dX5_meanError_17 (by decide) (fun hc => ?_) (fun hc => ?_)
    · replace hw := hw.1 hc
      refine lv_iconst (v := (0 : Int32)) B.1.1 B.1.2.1 dX5_meanError_22 (by decide) ?_
      refine lv_istore_n (i := 2) (lv' := [(2, .int (0 : Int32)), (0, .ref a0), (1, .int x1)]) B.1.1 B.1.2.1 dX5_meanError_23 rfl hl (by decide) rfl (fun ls hl9 => ?_)
      replace hl := hl9
      clear hl9
      refine lv_iconst (v := (0 : Int32)) B.1.1 B.1.2.1 dX5_meanError_24 (by decide) ?_
      refine lv_istore_n (i := 3) (lv' := [(3, .int (0 : Int32)), (2, .int (0 : Int32)), (0, .ref a0), (1, .int x1)]) B.1.1 B.1.2.1 dX5_meanError_25 rfl hl (by decide) rfl (fun ls hl9 => ?_)
      replace hl := hl9
      clear hl9
      obtain ⟨n1, hw⟩ := hw
      refine L26 a0 x1 _ n1 (0 : Int32) (0 : Int32) _ _ _ ls h (lv_sub hl [2, 3, 1, 0] rfl) hw (fun u1 u2 S4 H locs ls h9 hl9 hw9 => ?_)
      replace hw := hw9
      clear hw9
      replace h := h9
      clear h9
      replace hl := hl9
      clear hl9
      refine lv_iload_n B.1.1 B.1.2.1 dX5_meanError_61 rfl (lv_at hl 2 rfl) ?_
      refine lv_i2f B.1.1 B.1.2.1 dX5_meanError_62 ?_
      refine lv_bipush (v := (8 : Int32)) B.1.1 B.1.2.1 dX5_meanError_63 (by decide) ?_
      refine lv_aload_n B.1.1 B.1.2.1 dX5_meanError_65 rfl (lv_at hl 0 rfl) ?_
      obtain ⟨hok, hw⟩ := hw
      refine q_getR B h (ci := 5) (j := 2) (code := 162) rfl inT_5 (by decide) kF_RX5_7 rfl rfl rfl (by decide) dX5_meanError_66 hok.1 hok.2 ?_
      obtain ⟨o2, hoo2⟩ : ∃ z, z = gR S4 162 a0 := ⟨_, rfl⟩
      rw [← hoo2]
      replace hw := hw o2 hoo2
      refine lv_iload_n B.1.1 B.1.2.1 dX5_meanError_69 rfl (lv_at hl 1 rfl) ?_
      obtain ⟨q2, hn, hw⟩ := hw
      subst hn
      replace hl : lv_has ls 4 [(0, .ref a0), (1, .int x1), (2, .int u1), (3, .int u2)] := hl
      obtain ⟨hok, hin9, hw⟩ := hw
      refine q_iald B h dX5_meanError_70 hok.1 hok.2 hin9 ?_
      refine lv_imul B.1.1 B.1.2.1 dX5_meanError_71 ?_
      refine lv_i2f B.1.1 B.1.2.1 dX5_meanError_72 ?_
      obtain ⟨hne, hw⟩ := hw
      refine lv_fdiv B.1.1 B.1.2.1 dX5_meanError_73 hne ?_
      exact q_fret B hr hlk h hw dX5_meanError_74 (Nat.le_of_ble_eq_true rfl) (Nat.le_of_ble_eq_true rfl)
    · replace hw := hw.2 hc
      refine lv_fconst0 B.1.1 B.1.2.1 dX5_meanError_20 ?_
      exact q_fret B hr hlk h hw dX5_meanError_21 (Nat.le_of_ble_eq_true rfl) (Nat.le_of_ble_eq_true rfl)
  · replace hw := hw.2 hc
    refine lv_iconst (v := (0 : Int32)) B.1.1 B.1.2.1 dX5_meanError_9 (by decide) ?_
    refine lv_goto (tgt := 14) B.1.1 B.1.2.1 dX5_meanError_10 (by decide) ?_
    obtain ⟨hok, hw⟩ := hw
    refine q_callIV B h (met_X5_fails l a0 (0 : Int32)) (CB B 1 kC_X5_fails kI_RX5 kM_RX5_91 hd_X5_fails ⟨Nat.le_of_ble_eq_true rfl, Nat.le_of_ble_eq_true rfl⟩) kO_X5_fails kV_X5_fails (ci := 5) rfl (by decide) hok.1 hok.2 (rest := []) rfl rfl hl.1 (Nat.le_of_ble_eq_true rfl) dX5_meanError_14 ⟨Nat.le_of_ble_eq_true rfl, Nat.le_of_ble_eq_true rfl⟩ hw (fun r4 S5 H locs hw9 h9 => ?_)
    replace hw := hw9
    clear hw9
    replace h := h9
    clear h9
    refine lv_if_eq (tgt := 22) B.1.1 B.1.2.1 dX5_meanError_17 (by decide) (fun hc => ?_) (fun hc => ?_)
    · replace hw := hw.1 hc
      refine lv_iconst (v := (0 : Int32)) B.1.1 B.1.2.1 dX5_meanError_22 (by decide) ?_
      refine lv_istore_n (i := 2) (lv' := [(2, .int (0 : Int32)), (0, .ref a0), (1, .int x1)]) B.1.1 B.1.2.1 dX5_meanError_23 rfl hl (by decide) rfl (fun ls hl9 => ?_)
      replace hl := hl9
      clear hl9
      refine lv_iconst (v := (0 : Int32)) B.1.1 B.1.2.1 dX5_meanError_24 (by decide) ?_
      refine lv_istore_n (i := 3) (lv' := [(3, .int (0 : Int32)), (2, .int (0 : Int32)), (0, .ref a0), (1, .int x1)]) B.1.1 B.1.2.1 dX5_meanError_25 rfl hl (by decide) rfl (fun ls hl9 => ?_)
      replace hl := hl9
      clear hl9
      obtain ⟨n2, hw⟩ := hw
      refine L26 a0 x1 _ n2 (0 : Int32) (0 : Int32) _ _ _ ls h (lv_sub hl [2, 3, 1, 0] rfl) hw (fun u3 u4 S6 H locs ls h9 hl9 hw9 => ?_)
      replace hw := hw9
      clear hw9
      replace h := h9
      clear h9
      replace hl := hl9
      clear hl9
      refine lv_iload_n B.1.1 B.1.2.1 dX5_meanError_61 rfl (lv_at hl 2 rfl) ?_
      refine lv_i2f B.1.1 B.1.2.1 dX5_meanError_62 ?_
      refine lv_bipush (v := (8 : Int32)) B.1.1 B.1.2.1 dX5_meanError_63 (by decide) ?_
      refine lv_aload_n B.1.1 B.1.2.1 dX5_meanError_65 rfl (lv_at hl 0 rfl) ?_
      obtain ⟨hok, hw⟩ := hw
      refine q_getR B h (ci := 5) (j := 2) (code := 162) rfl inT_5 (by decide) kF_RX5_7 rfl rfl rfl (by decide) dX5_meanError_66 hok.1 hok.2 ?_
      obtain ⟨o3, hoo3⟩ : ∃ z, z = gR S6 162 a0 := ⟨_, rfl⟩
      rw [← hoo3]
      replace hw := hw o3 hoo3
      refine lv_iload_n B.1.1 B.1.2.1 dX5_meanError_69 rfl (lv_at hl 1 rfl) ?_
      obtain ⟨q3, hn, hw⟩ := hw
      subst hn
      replace hl : lv_has ls 4 [(0, .ref a0), (1, .int x1), (2, .int u3), (3, .int u4)] := hl
      obtain ⟨hok, hin9, hw⟩ := hw
      refine q_iald B h dX5_meanError_70 hok.1 hok.2 hin9 ?_
      refine lv_imul B.1.1 B.1.2.1 dX5_meanError_71 ?_
      refine lv_i2f B.1.1 B.1.2.1 dX5_meanError_72 ?_
      obtain ⟨hne, hw⟩ := hw
      refine lv_fdiv B.1.1 B.1.2.1 dX5_meanError_73 hne ?_
      exact q_fret B hr hlk h hw dX5_meanError_74 (Nat.le_of_ble_eq_true rfl) (Nat.le_of_ble_eq_true rfl)
    · replace hw := hw.2 hc
      refine lv_fconst0 B.1.1 B.1.2.1 dX5_meanError_20 ?_
      exact q_fret B hr hlk h hw dX5_meanError_21 (Nat.le_of_ble_eq_true rfl) (Nat.le_of_ble_eq_true rfl)
set_option maxHeartbeats 4000000 in
set_option maxRecDepth 100000 in
theorem met_X5_init (l : Launch) (a0 : Nat) : MV l yX5_init cX5_init 2 none 1 12 17 4077 [.ref a0] (wX5_init a0) := by
  refine MV.of (by decide) (Nat.le_of_ble_eq_true rfl) ?_
  intro p e s m below meth c D cs lo S Q ls B hr hlk hin
  have L169 : ∀ (c0 : Nat) (K : Int32 → HS → Prop) (n : Nat) (m1 : Int32) (S : HS) (H : Heap) (locs : List Loc) (ls : Array Slot), Hx D cs lo s S H locs → lv_has ls 2 [(0, .ref c0), (1, .int m1)] → wX5_init_L169 c0 n m1 S K → (∀ (m1 : Int32) (S : HS) (H : Heap) (locs : List Loc) (ls : Array Slot), Hx D cs lo s S H locs → lv_has ls 2 [(0, .ref c0), (1, .int m1)] → K m1 S → W p l e ({ frames := 1, cells := 17, slots := 4077, locals := 12 } : Room) s m [.ref a0].toArray below meth c H locs 17 4077 (MQ below (va_Qv Q (fun S' t => hp D cs lo S' t.heap) (fun q => lo ≤ q)) [.ref a0].toArray s 17 4077 (fun q => lo ≤ q)) (F0 m 195 ls [])) → W p l e ({ frames := 1, cells := 17, slots := 4077, locals := 12 } : Room) s m [.ref a0].toArray below meth c H locs 17 4077 (MQ below (va_Qv Q (fun S' t => hp D cs lo S' t.heap) (fun q => lo ≤ q)) [.ref a0].toArray s 17 4077 (fun q => lo ≤ q)) (F0 m 169 ls []) := by
    intro c0 K n
    induction n with
    | zero => intro m1 S H locs ls h hl hw hk; exact False.elim hw
    | succ n ih =>
      intro m1 S H locs ls h hl hw hk
      refine lv_iload_n B.1.1 B.1.2.1 dX5_init_169 rfl (lv_at hl 1 rfl) ?_
      refine lv_bipush (v := (80 : Int32)) B.1.1 B.1.2.1 dX5_init_170 (by decide) ?_
      refine lv_icmp_ge (tgt := 195) B.1.1 B.1.2.1 dX5_init_172 (by decide) (fun hc => ?_) (fun hc => ?_)
      · replace hw := hw.1 hc
        exact hk m1 _ _ _ ls h (lv_sub hl [0, 1] rfl) hw
      · replace hw := hw.2 hc
        refine lv_aload_n B.1.1 B.1.2.1 dX5_init_175 rfl (lv_at hl 0 rfl) ?_
        obtain ⟨hok, hw⟩ := hw
        refine q_getR B h (ci := 5) (j := 9) (code := 169) rfl inT_5 (by decide) kF_RX5_31 rfl rfl rfl (by decide) dX5_init_176 hok.1 hok.2 ?_
        obtain ⟨o4, hoo4⟩ : ∃ z, z = gR S 169 c0 := ⟨_, rfl⟩
        rw [← hoo4]
        replace hw := hw o4 hoo4
        refine lv_iload_n B.1.1 B.1.2.1 dX5_init_179 rfl (lv_at hl 1 rfl) ?_
        refine lv_iconst (v := (-1 : Int32)) B.1.1 B.1.2.1 dX5_init_180 (by decide) ?_
        obtain ⟨q21, hn, hw⟩ := hw
        subst hn
        replace hl : lv_has ls 2 [(0, .ref c0), (1, .int m1)] := hl
        obtain ⟨hok, hin9, hw⟩ := hw
        refine q_iast B h dX5_init_181 hok.1 hok.2 hin9 (fun H locs h9 => ?_)
        obtain ⟨S39, hS39, hh⟩ : ∃ z, z = sA S q21 m1.toNatClampNeg (-1 : Int32) ∧ Hx D cs lo s z H _ := ⟨_, rfl, h9⟩
        clear h9
        replace h := hh
        clear hh
        replace hw := hw S39 hS39
        refine lv_aload_n B.1.1 B.1.2.1 dX5_init_182 rfl (lv_at hl 0 rfl) ?_
        obtain ⟨hok, hw⟩ := hw
        refine q_getR B h (ci := 5) (j := 10) (code := 170) rfl inT_5 (by decide) kF_RX5_34 rfl rfl rfl (by decide) dX5_init_183 hok.1 hok.2 ?_
        obtain ⟨o5, hoo5⟩ : ∃ z, z = gR S39 170 c0 := ⟨_, rfl⟩
        rw [← hoo5]
        replace hw := hw o5 hoo5
        refine lv_iload_n B.1.1 B.1.2.1 dX5_init_186 rfl (lv_at hl 1 rfl) ?_
        refine lv_iconst (v := (-1 : Int32)) B.1.1 B.1.2.1 dX5_init_187 (by decide) ?_
        obtain ⟨q22, hn, hw⟩ := hw
        subst hn
        replace hl : lv_has ls 2 [(0, .ref c0), (1, .int m1)] := hl
        obtain ⟨hok, hin9, hw⟩ := hw
        refine q_iast B h dX5_init_188 hok.1 hok.2 hin9 (fun H locs h9 => ?_)
        obtain ⟨S40, hS40, hh⟩ : ∃ z, z = sA S39 q22 m1.toNatClampNeg (-1 : Int32) ∧ Hx D cs lo s z H _ := ⟨_, rfl, h9⟩
        clear h9
        replace h := hh
        clear hh
        replace hw := hw S40 hS40
        refine lv_iinc (i := 1) (v := (m1 + (1 : Int32))) (lv' := [(1, .int (m1 + (1 : Int32))), (0, .ref c0)]) B.1.1 B.1.2.1 dX5_init_189 hl (k := 1) rfl rfl (by decide) rfl (fun ls hl9 => ?_)
        replace hl := hl9
        clear hl9
        refine lv_goto (tgt := 169) B.1.1 B.1.2.1 dX5_init_192 (by decide) ?_
        exact ih (m1 + (1 : Int32)) _ _ _ ls h (lv_sub hl [1, 0] rfl) hw hk
  have L133 : ∀ (c0 : Nat) (K : Int32 → HS → Prop) (n : Nat) (m1 : Int32) (S : HS) (H : Heap) (locs : List Loc) (ls : Array Slot), Hx D cs lo s S H locs → lv_has ls 2 [(0, .ref c0), (1, .int m1)] → wX5_init_L133 c0 n m1 S K → (∀ (m1 : Int32) (S : HS) (H : Heap) (locs : List Loc) (ls : Array Slot), Hx D cs lo s S H locs → lv_has ls 2 [(0, .ref c0), (1, .int m1)] → K m1 S → W p l e ({ frames := 1, cells := 17, slots := 4077, locals := 12 } : Room) s m [.ref a0].toArray below meth c H locs 17 4077 (MQ below (va_Qv Q (fun S' t => hp D cs lo S' t.heap) (fun q => lo ≤ q)) [.ref a0].toArray s 17 4077 (fun q => lo ≤ q)) (F0 m 167 ls [])) → W p l e ({ frames := 1, cells := 17, slots := 4077, locals := 12 } : Room) s m [.ref a0].toArray below meth c H locs 17 4077 (MQ below (va_Qv Q (fun S' t => hp D cs lo S' t.heap) (fun q => lo ≤ q)) [.ref a0].toArray s 17 4077 (fun q => lo ≤ q)) (F0 m 133 ls []) := by
    intro c0 K n
    induction n with
    | zero => intro m1 S H locs ls h hl hw hk; exact False.elim hw
    | succ n ih =>
      intro m1 S H locs ls h hl hw hk
      refine lv_iload_n B.1.1 B.1.2.1 dX5_init_133 rfl (lv_at hl 1 rfl) ?_
      refine lv_iconst (v := (3 : Int32)) B.1.1 B.1.2.1 dX5_init_134 (by decide) ?_
      refine lv_icmp_ge (tgt := 167) B.1.1 B.1.2.1 dX5_init_135 (by decide) (fun hc => ?_) (fun hc => ?_)
      · replace hw := hw.1 hc
        exact hk m1 _ _ _ ls h (lv_sub hl [0, 1] rfl) hw
      · replace hw := hw.2 hc
        refine lv_aload_n B.1.1 B.1.2.1 dX5_init_138 rfl (lv_at hl 0 rfl) ?_
        obtain ⟨hok, hw⟩ := hw
        refine q_getR B h (ci := 5) (j := 12) (code := 172) rfl inT_5 (by decide) kF_RX5_40 rfl rfl rfl (by decide) dX5_init_139 hok.1 hok.2 ?_
        obtain ⟨o1, hoo1⟩ : ∃ z, z = gR S 172 c0 := ⟨_, rfl⟩
        rw [← hoo1]
        replace hw := hw o1 hoo1
        refine lv_iload_n B.1.1 B.1.2.1 dX5_init_142 rfl (lv_at hl 1 rfl) ?_
        refine lv_bipush (v := (100 : Int32)) B.1.1 B.1.2.1 dX5_init_143 (by decide) ?_
        obtain ⟨q18, hn, hw⟩ := hw
        subst hn
        replace hl : lv_has ls 2 [(0, .ref c0), (1, .int m1)] := hl
        obtain ⟨hok, hin9, hw⟩ := hw
        refine q_iast B h dX5_init_145 hok.1 hok.2 hin9 (fun H locs h9 => ?_)
        obtain ⟨S35, hS35, hh⟩ : ∃ z, z = sA S q18 m1.toNatClampNeg (100 : Int32) ∧ Hx D cs lo s z H _ := ⟨_, rfl, h9⟩
        clear h9
        replace h := hh
        clear hh
        replace hw := hw S35 hS35
        refine lv_aload_n B.1.1 B.1.2.1 dX5_init_146 rfl (lv_at hl 0 rfl) ?_
        obtain ⟨hok, hw⟩ := hw
        refine q_getR B h (ci := 5) (j := 13) (code := 173) rfl inT_5 (by decide) kF_RX5_43 rfl rfl rfl (by decide) dX5_init_147 hok.1 hok.2 ?_
        obtain ⟨o2, hoo2⟩ : ∃ z, z = gR S35 173 c0 := ⟨_, rfl⟩
        rw [← hoo2]
        replace hw := hw o2 hoo2
        refine lv_iload_n B.1.1 B.1.2.1 dX5_init_150 rfl (lv_at hl 1 rfl) ?_
        refine lv_bipush (v := (100 : Int32)) B.1.1 B.1.2.1 dX5_init_151 (by decide) ?_
        obtain ⟨q19, hn, hw⟩ := hw
        subst hn
        replace hl : lv_has ls 2 [(0, .ref c0), (1, .int m1)] := hl
        obtain ⟨hok, hin9, hw⟩ := hw
        refine q_iast B h dX5_init_153 hok.1 hok.2 hin9 (fun H locs h9 => ?_)
        obtain ⟨S36, hS36, hh⟩ : ∃ z, z = sA S35 q19 m1.toNatClampNeg (100 : Int32) ∧ Hx D cs lo s z H _ := ⟨_, rfl, h9⟩
        clear h9
        replace h := hh
        clear hh
        replace hw := hw S36 hS36
        refine lv_aload_n B.1.1 B.1.2.1 dX5_init_154 rfl (lv_at hl 0 rfl) ?_
        obtain ⟨hok, hw⟩ := hw
        refine q_getR B h (ci := 5) (j := 16) (code := 176) rfl inT_5 (by decide) kF_RX5_53 rfl rfl rfl (by decide) dX5_init_155 hok.1 hok.2 ?_
        obtain ⟨o3, hoo3⟩ : ∃ z, z = gR S36 176 c0 := ⟨_, rfl⟩
        rw [← hoo3]
        replace hw := hw o3 hoo3
        refine lv_iload_n B.1.1 B.1.2.1 dX5_init_158 rfl (lv_at hl 1 rfl) ?_
        refine lv_iconst (v := (-1 : Int32)) B.1.1 B.1.2.1 dX5_init_159 (by decide) ?_
        obtain ⟨q20, hn, hw⟩ := hw
        subst hn
        replace hl : lv_has ls 2 [(0, .ref c0), (1, .int m1)] := hl
        obtain ⟨hok, hin9, hw⟩ := hw
        refine q_iast B h dX5_init_160 hok.1 hok.2 hin9 (fun H locs h9 => ?_)
        obtain ⟨S37, hS37, hh⟩ : ∃ z, z = sA S36 q20 m1.toNatClampNeg (-1 : Int32) ∧ Hx D cs lo s z H _ := ⟨_, rfl, h9⟩
        clear h9
        replace h := hh
        clear hh
        replace hw := hw S37 hS37
        refine lv_iinc (i := 1) (v := (m1 + (1 : Int32))) (lv' := [(1, .int (m1 + (1 : Int32))), (0, .ref c0)]) B.1.1 B.1.2.1 dX5_init_161 hl (k := 1) rfl rfl (by decide) rfl (fun ls hl9 => ?_)
        replace hl := hl9
        clear hl9
        refine lv_goto (tgt := 133) B.1.1 B.1.2.1 dX5_init_164 (by decide) ?_
        exact ih (m1 + (1 : Int32)) _ _ _ ls h (lv_sub hl [1, 0] rfl) hw hk
  intro h hl hw
  replace hl : lv_has ls 2 [(0, .ref a0)] := hl
  refine lv_aload_n B.1.1 B.1.2.1 dX5_init_0 rfl (lv_at hl 0 rfl) ?_
  refine q_objInit B kM_RX5_1 kO_objinit kC_objinit hl.1 dX5_init_1 (Nat.le_of_ble_eq_true rfl) (Nat.le_of_ble_eq_true rfl) ?_
  refine lv_aload_n B.1.1 B.1.2.1 dX5_init_4 rfl (lv_at hl 0 rfl) ?_
  refine lv_iconst (v := (5 : Int32)) B.1.1 B.1.2.1 dX5_init_5 (by decide) ?_
  refine q_newi B h (N' := 5) kA_int (by decide) (by decide) (Nat.le_of_ble_eq_true rfl) (Nat.le_of_ble_eq_true rfl) (Nat.le_of_ble_eq_true rfl) dX5_init_6 (fun q1 H hqq1 h9 => ?_)
  obtain ⟨S1, hS1, hh⟩ : ∃ z, z = nw S 6 5 q1 ∧ Hx D cs lo s z H _ := ⟨_, rfl, h9⟩
  clear h9
  replace h := hh
  clear hh
  replace hw := hw q1 hqq1 S1 hS1
  obtain ⟨hok, hw⟩ := hw
  refine q_putRF B h (ci := 5) (j := 2) (code := 162) (v := (some q1)) rfl inT_5 tyX5 tyX5_ok nmX5 (by decide) kF_RX5_7 rfl rfl (hin.trans rfl) rfl rfl rfl (by decide) rfl rfl dX5_init_8 hok.1 hok.2 (fun H locs h9 => ?_)
  obtain ⟨S2, hS2, hh⟩ : ∃ z, z = sR S1 162 a0 (some q1) ∧ Hx D cs lo s z H _ := ⟨_, rfl, h9⟩
  clear h9
  replace h := hh
  clear hh
  replace hw := hw S2 hS2
  refine lv_aload_n B.1.1 B.1.2.1 dX5_init_11 rfl (lv_at hl 0 rfl) ?_
  refine lv_iconst (v := (5 : Int32)) B.1.1 B.1.2.1 dX5_init_12 (by decide) ?_
  refine q_newi B h (N' := 5) kA_int (by decide) (by decide) (Nat.le_of_ble_eq_true rfl) (Nat.le_of_ble_eq_true rfl) (Nat.le_of_ble_eq_true rfl) dX5_init_13 (fun q2 H hqq2 h9 => ?_)
  obtain ⟨S3, hS3, hh⟩ : ∃ z, z = nw S2 6 5 q2 ∧ Hx D cs lo s z H _ := ⟨_, rfl, h9⟩
  clear h9
  replace h := hh
  clear hh
  replace hw := hw q2 hqq2 S3 hS3
  obtain ⟨hok, hw⟩ := hw
  refine q_putRF B h (ci := 5) (j := 3) (code := 163) (v := (some q2)) rfl inT_5 tyX5 tyX5_ok nmX5 (by decide) kF_RX5_13 rfl rfl (hin.trans rfl) rfl rfl rfl (by decide) rfl rfl dX5_init_15 hok.1 hok.2 (fun H locs h9 => ?_)
  obtain ⟨S4, hS4, hh⟩ : ∃ z, z = sR S3 163 a0 (some q2) ∧ Hx D cs lo s z H _ := ⟨_, rfl, h9⟩
  clear h9
  replace h := hh
  clear hh
  replace hw := hw S4 hS4
  refine lv_aload_n B.1.1 B.1.2.1 dX5_init_18 rfl (lv_at hl 0 rfl) ?_
  refine lv_iconst (v := (5 : Int32)) B.1.1 B.1.2.1 dX5_init_19 (by decide) ?_
  refine q_newi B h (N' := 5) kA_int (by decide) (by decide) (Nat.le_of_ble_eq_true rfl) (Nat.le_of_ble_eq_true rfl) (Nat.le_of_ble_eq_true rfl) dX5_init_20 (fun q3 H hqq3 h9 => ?_)
  obtain ⟨S5, hS5, hh⟩ : ∃ z, z = nw S4 6 5 q3 ∧ Hx D cs lo s z H _ := ⟨_, rfl, h9⟩
  clear h9
  replace h := hh
  clear hh
  replace hw := hw q3 hqq3 S5 hS5
  obtain ⟨hok, hw⟩ := hw
  refine q_putRF B h (ci := 5) (j := 4) (code := 164) (v := (some q3)) rfl inT_5 tyX5 tyX5_ok nmX5 (by decide) kF_RX5_16 rfl rfl (hin.trans rfl) rfl rfl rfl (by decide) rfl rfl dX5_init_22 hok.1 hok.2 (fun H locs h9 => ?_)
  obtain ⟨S6, hS6, hh⟩ : ∃ z, z = sR S5 164 a0 (some q3) ∧ Hx D cs lo s z H _ := ⟨_, rfl, h9⟩
  clear h9
  replace h := hh
  clear hh
  replace hw := hw S6 hS6
  refine lv_aload_n B.1.1 B.1.2.1 dX5_init_25 rfl (lv_at hl 0 rfl) ?_
  refine lv_iconst (v := (5 : Int32)) B.1.1 B.1.2.1 dX5_init_26 (by decide) ?_
  refine q_newi B h (N' := 5) kA_int (by decide) (by decide) (Nat.le_of_ble_eq_true rfl) (Nat.le_of_ble_eq_true rfl) (Nat.le_of_ble_eq_true rfl) dX5_init_27 (fun q4 H hqq4 h9 => ?_)
  obtain ⟨S7, hS7, hh⟩ : ∃ z, z = nw S6 6 5 q4 ∧ Hx D cs lo s z H _ := ⟨_, rfl, h9⟩
  clear h9
  replace h := hh
  clear hh
  replace hw := hw q4 hqq4 S7 hS7
  obtain ⟨hok, hw⟩ := hw
  refine q_putRF B h (ci := 5) (j := 5) (code := 165) (v := (some q4)) rfl inT_5 tyX5 tyX5_ok nmX5 (by decide) kF_RX5_19 rfl rfl (hin.trans rfl) rfl rfl rfl (by decide) rfl rfl dX5_init_29 hok.1 hok.2 (fun H locs h9 => ?_)
  obtain ⟨S8, hS8, hh⟩ : ∃ z, z = sR S7 165 a0 (some q4) ∧ Hx D cs lo s z H _ := ⟨_, rfl, h9⟩
  clear h9
  replace h := hh
  clear hh
  replace hw := hw S8 hS8
  refine lv_aload_n B.1.1 B.1.2.1 dX5_init_32 rfl (lv_at hl 0 rfl) ?_
  refine lv_iconst (v := (5 : Int32)) B.1.1 B.1.2.1 dX5_init_33 (by decide) ?_
  refine q_newi B h (N' := 5) kA_int (by decide) (by decide) (Nat.le_of_ble_eq_true rfl) (Nat.le_of_ble_eq_true rfl) (Nat.le_of_ble_eq_true rfl) dX5_init_34 (fun q5 H hqq5 h9 => ?_)
  obtain ⟨S9, hS9, hh⟩ : ∃ z, z = nw S8 6 5 q5 ∧ Hx D cs lo s z H _ := ⟨_, rfl, h9⟩
  clear h9
  replace h := hh
  clear hh
  replace hw := hw q5 hqq5 S9 hS9
  obtain ⟨hok, hw⟩ := hw
  refine q_putRF B h (ci := 5) (j := 6) (code := 166) (v := (some q5)) rfl inT_5 tyX5 tyX5_ok nmX5 (by decide) kF_RX5_22 rfl rfl (hin.trans rfl) rfl rfl rfl (by decide) rfl rfl dX5_init_36 hok.1 hok.2 (fun H locs h9 => ?_)
  obtain ⟨S10, hS10, hh⟩ : ∃ z, z = sR S9 166 a0 (some q5) ∧ Hx D cs lo s z H _ := ⟨_, rfl, h9⟩
  clear h9
  replace h := hh
  clear hh
  replace hw := hw S10 hS10
  refine lv_aload_n B.1.1 B.1.2.1 dX5_init_39 rfl (lv_at hl 0 rfl) ?_
  refine lv_sipush (v := (1280 : Int32)) B.1.1 B.1.2.1 dX5_init_40 (by decide) ?_
  refine q_newi B h (N' := 1280) kA_int (by decide) (by decide) (Nat.le_of_ble_eq_true rfl) (Nat.le_of_ble_eq_true rfl) (Nat.le_of_ble_eq_true rfl) dX5_init_43 (fun q6 H hqq6 h9 => ?_)
  obtain ⟨S11, hS11, hh⟩ : ∃ z, z = nw S10 6 1280 q6 ∧ Hx D cs lo s z H _ := ⟨_, rfl, h9⟩
  clear h9
  replace h := hh
  clear hh
  replace hw := hw q6 hqq6 S11 hS11
  obtain ⟨hok, hw⟩ := hw
  refine q_putRF B h (ci := 5) (j := 7) (code := 167) (v := (some q6)) rfl inT_5 tyX5 tyX5_ok nmX5 (by decide) kF_RX5_25 rfl rfl (hin.trans rfl) rfl rfl rfl (by decide) rfl rfl dX5_init_45 hok.1 hok.2 (fun H locs h9 => ?_)
  obtain ⟨S12, hS12, hh⟩ : ∃ z, z = sR S11 167 a0 (some q6) ∧ Hx D cs lo s z H _ := ⟨_, rfl, h9⟩
  clear h9
  replace h := hh
  clear hh
  replace hw := hw S12 hS12
  refine lv_aload_n B.1.1 B.1.2.1 dX5_init_48 rfl (lv_at hl 0 rfl) ?_
  refine lv_sipush (v := (2560 : Int32)) B.1.1 B.1.2.1 dX5_init_49 (by decide) ?_
  refine q_newi B h (N' := 2560) kA_int (by decide) (by decide) (Nat.le_of_ble_eq_true rfl) (Nat.le_of_ble_eq_true rfl) (Nat.le_of_ble_eq_true rfl) dX5_init_52 (fun q7 H hqq7 h9 => ?_)
  obtain ⟨S13, hS13, hh⟩ : ∃ z, z = nw S12 6 2560 q7 ∧ Hx D cs lo s z H _ := ⟨_, rfl, h9⟩
  clear h9
  replace h := hh
  clear hh
  replace hw := hw q7 hqq7 S13 hS13
  obtain ⟨hok, hw⟩ := hw
  refine q_putRF B h (ci := 5) (j := 8) (code := 168) (v := (some q7)) rfl inT_5 tyX5 tyX5_ok nmX5 (by decide) kF_RX5_28 rfl rfl (hin.trans rfl) rfl rfl rfl (by decide) rfl rfl dX5_init_54 hok.1 hok.2 (fun H locs h9 => ?_)
  obtain ⟨S14, hS14, hh⟩ : ∃ z, z = sR S13 168 a0 (some q7) ∧ Hx D cs lo s z H _ := ⟨_, rfl, h9⟩
  clear h9
  replace h := hh
  clear hh
  replace hw := hw S14 hS14
  refine lv_aload_n B.1.1 B.1.2.1 dX5_init_57 rfl (lv_at hl 0 rfl) ?_
  refine lv_bipush (v := (80 : Int32)) B.1.1 B.1.2.1 dX5_init_58 (by decide) ?_
  refine q_newi B h (N' := 80) kA_int (by decide) (by decide) (Nat.le_of_ble_eq_true rfl) (Nat.le_of_ble_eq_true rfl) (Nat.le_of_ble_eq_true rfl) dX5_init_60 (fun q8 H hqq8 h9 => ?_)
  obtain ⟨S15, hS15, hh⟩ : ∃ z, z = nw S14 6 80 q8 ∧ Hx D cs lo s z H _ := ⟨_, rfl, h9⟩
  clear h9
  replace h := hh
  clear hh
  replace hw := hw q8 hqq8 S15 hS15
  obtain ⟨hok, hw⟩ := hw
  refine q_putRF B h (ci := 5) (j := 9) (code := 169) (v := (some q8)) rfl inT_5 tyX5 tyX5_ok nmX5 (by decide) kF_RX5_31 rfl rfl (hin.trans rfl) rfl rfl rfl (by decide) rfl rfl dX5_init_62 hok.1 hok.2 (fun H locs h9 => ?_)
  obtain ⟨S16, hS16, hh⟩ : ∃ z, z = sR S15 169 a0 (some q8) ∧ Hx D cs lo s z H _ := ⟨_, rfl, h9⟩
  clear h9
  replace h := hh
  clear hh
  replace hw := hw S16 hS16
  refine lv_aload_n B.1.1 B.1.2.1 dX5_init_65 rfl (lv_at hl 0 rfl) ?_
  refine lv_bipush (v := (80 : Int32)) B.1.1 B.1.2.1 dX5_init_66 (by decide) ?_
  refine q_newi B h (N' := 80) kA_int (by decide) (by decide) (Nat.le_of_ble_eq_true rfl) (Nat.le_of_ble_eq_true rfl) (Nat.le_of_ble_eq_true rfl) dX5_init_68 (fun q9 H hqq9 h9 => ?_)
  obtain ⟨S17, hS17, hh⟩ : ∃ z, z = nw S16 6 80 q9 ∧ Hx D cs lo s z H _ := ⟨_, rfl, h9⟩
  clear h9
  replace h := hh
  clear hh
  replace hw := hw q9 hqq9 S17 hS17
  obtain ⟨hok, hw⟩ := hw
  refine q_putRF B h (ci := 5) (j := 10) (code := 170) (v := (some q9)) rfl inT_5 tyX5 tyX5_ok nmX5 (by decide) kF_RX5_34 rfl rfl (hin.trans rfl) rfl rfl rfl (by decide) rfl rfl dX5_init_70 hok.1 hok.2 (fun H locs h9 => ?_)
  obtain ⟨S18, hS18, hh⟩ : ∃ z, z = sR S17 170 a0 (some q9) ∧ Hx D cs lo s z H _ := ⟨_, rfl, h9⟩
  clear h9
  replace h := hh
  clear hh
  replace hw := hw S18 hS18
  refine lv_aload_n B.1.1 B.1.2.1 dX5_init_73 rfl (lv_at hl 0 rfl) ?_
  refine lv_iconst (v := (5 : Int32)) B.1.1 B.1.2.1 dX5_init_74 (by decide) ?_
  refine q_newi B h (N' := 5) kA_int (by decide) (by decide) (Nat.le_of_ble_eq_true rfl) (Nat.le_of_ble_eq_true rfl) (Nat.le_of_ble_eq_true rfl) dX5_init_75 (fun q10 H hqq10 h9 => ?_)
  obtain ⟨S19, hS19, hh⟩ : ∃ z, z = nw S18 6 5 q10 ∧ Hx D cs lo s z H _ := ⟨_, rfl, h9⟩
  clear h9
  replace h := hh
  clear hh
  replace hw := hw q10 hqq10 S19 hS19
  obtain ⟨hok, hw⟩ := hw
  refine q_putRF B h (ci := 5) (j := 11) (code := 171) (v := (some q10)) rfl inT_5 tyX5 tyX5_ok nmX5 (by decide) kF_RX5_37 rfl rfl (hin.trans rfl) rfl rfl rfl (by decide) rfl rfl dX5_init_77 hok.1 hok.2 (fun H locs h9 => ?_)
  obtain ⟨S20, hS20, hh⟩ : ∃ z, z = sR S19 171 a0 (some q10) ∧ Hx D cs lo s z H _ := ⟨_, rfl, h9⟩
  clear h9
  replace h := hh
  clear hh
  replace hw := hw S20 hS20
  refine lv_aload_n B.1.1 B.1.2.1 dX5_init_80 rfl (lv_at hl 0 rfl) ?_
  refine lv_iconst (v := (3 : Int32)) B.1.1 B.1.2.1 dX5_init_81 (by decide) ?_
  refine q_newi B h (N' := 3) kA_int (by decide) (by decide) (Nat.le_of_ble_eq_true rfl) (Nat.le_of_ble_eq_true rfl) (Nat.le_of_ble_eq_true rfl) dX5_init_82 (fun q11 H hqq11 h9 => ?_)
  obtain ⟨S21, hS21, hh⟩ : ∃ z, z = nw S20 6 3 q11 ∧ Hx D cs lo s z H _ := ⟨_, rfl, h9⟩
  clear h9
  replace h := hh
  clear hh
  replace hw := hw q11 hqq11 S21 hS21
  obtain ⟨hok, hw⟩ := hw
  refine q_putRF B h (ci := 5) (j := 12) (code := 172) (v := (some q11)) rfl inT_5 tyX5 tyX5_ok nmX5 (by decide) kF_RX5_40 rfl rfl (hin.trans rfl) rfl rfl rfl (by decide) rfl rfl dX5_init_84 hok.1 hok.2 (fun H locs h9 => ?_)
  obtain ⟨S22, hS22, hh⟩ : ∃ z, z = sR S21 172 a0 (some q11) ∧ Hx D cs lo s z H _ := ⟨_, rfl, h9⟩
  clear h9
  replace h := hh
  clear hh
  replace hw := hw S22 hS22
  refine lv_aload_n B.1.1 B.1.2.1 dX5_init_87 rfl (lv_at hl 0 rfl) ?_
  refine lv_iconst (v := (3 : Int32)) B.1.1 B.1.2.1 dX5_init_88 (by decide) ?_
  refine q_newi B h (N' := 3) kA_int (by decide) (by decide) (Nat.le_of_ble_eq_true rfl) (Nat.le_of_ble_eq_true rfl) (Nat.le_of_ble_eq_true rfl) dX5_init_89 (fun q12 H hqq12 h9 => ?_)
  obtain ⟨S23, hS23, hh⟩ : ∃ z, z = nw S22 6 3 q12 ∧ Hx D cs lo s z H _ := ⟨_, rfl, h9⟩
  clear h9
  replace h := hh
  clear hh
  replace hw := hw q12 hqq12 S23 hS23
  obtain ⟨hok, hw⟩ := hw
  refine q_putRF B h (ci := 5) (j := 13) (code := 173) (v := (some q12)) rfl inT_5 tyX5 tyX5_ok nmX5 (by decide) kF_RX5_43 rfl rfl (hin.trans rfl) rfl rfl rfl (by decide) rfl rfl dX5_init_91 hok.1 hok.2 (fun H locs h9 => ?_)
  obtain ⟨S24, hS24, hh⟩ : ∃ z, z = sR S23 173 a0 (some q12) ∧ Hx D cs lo s z H _ := ⟨_, rfl, h9⟩
  clear h9
  replace h := hh
  clear hh
  replace hw := hw S24 hS24
  refine lv_aload_n B.1.1 B.1.2.1 dX5_init_94 rfl (lv_at hl 0 rfl) ?_
  refine lv_bipush (v := (24 : Int32)) B.1.1 B.1.2.1 dX5_init_95 (by decide) ?_
  refine q_newz B h (N' := 24) kA_boolean (by decide) (by decide) (Nat.le_of_ble_eq_true rfl) (Nat.le_of_ble_eq_true rfl) (Nat.le_of_ble_eq_true rfl) dX5_init_97 (fun q13 H hqq13 h9 => ?_)
  obtain ⟨S25, hS25, hh⟩ : ∃ z, z = nw S24 7 24 q13 ∧ Hx D cs lo s z H _ := ⟨_, rfl, h9⟩
  clear h9
  replace h := hh
  clear hh
  replace hw := hw q13 hqq13 S25 hS25
  obtain ⟨hok, hw⟩ := hw
  refine q_putRF B h (ci := 5) (j := 14) (code := 174) (v := (some q13)) rfl inT_5 tyX5 tyX5_ok nmX5 (by decide) kF_RX5_46 rfl rfl (hin.trans rfl) rfl rfl rfl (by decide) rfl rfl dX5_init_99 hok.1 hok.2 (fun H locs h9 => ?_)
  obtain ⟨S26, hS26, hh⟩ : ∃ z, z = sR S25 174 a0 (some q13) ∧ Hx D cs lo s z H _ := ⟨_, rfl, h9⟩
  clear h9
  replace h := hh
  clear hh
  replace hw := hw S26 hS26
  refine lv_aload_n B.1.1 B.1.2.1 dX5_init_102 rfl (lv_at hl 0 rfl) ?_
  refine lv_iconst (v := (3 : Int32)) B.1.1 B.1.2.1 dX5_init_103 (by decide) ?_
  refine q_newi B h (N' := 3) kA_int (by decide) (by decide) (Nat.le_of_ble_eq_true rfl) (Nat.le_of_ble_eq_true rfl) (Nat.le_of_ble_eq_true rfl) dX5_init_104 (fun q14 H hqq14 h9 => ?_)
  obtain ⟨S27, hS27, hh⟩ : ∃ z, z = nw S26 6 3 q14 ∧ Hx D cs lo s z H _ := ⟨_, rfl, h9⟩
  clear h9
  replace h := hh
  clear hh
  replace hw := hw q14 hqq14 S27 hS27
  obtain ⟨hok, hw⟩ := hw
  refine q_putRF B h (ci := 5) (j := 15) (code := 175) (v := (some q14)) rfl inT_5 tyX5 tyX5_ok nmX5 (by decide) kF_RX5_50 rfl rfl (hin.trans rfl) rfl rfl rfl (by decide) rfl rfl dX5_init_106 hok.1 hok.2 (fun H locs h9 => ?_)
  obtain ⟨S28, hS28, hh⟩ : ∃ z, z = sR S27 175 a0 (some q14) ∧ Hx D cs lo s z H _ := ⟨_, rfl, h9⟩
  clear h9
  replace h := hh
  clear hh
  replace hw := hw S28 hS28
  refine lv_aload_n B.1.1 B.1.2.1 dX5_init_109 rfl (lv_at hl 0 rfl) ?_
  refine lv_iconst (v := (3 : Int32)) B.1.1 B.1.2.1 dX5_init_110 (by decide) ?_
  refine q_newi B h (N' := 3) kA_int (by decide) (by decide) (Nat.le_of_ble_eq_true rfl) (Nat.le_of_ble_eq_true rfl) (Nat.le_of_ble_eq_true rfl) dX5_init_111 (fun q15 H hqq15 h9 => ?_)
  obtain ⟨S29, hS29, hh⟩ : ∃ z, z = nw S28 6 3 q15 ∧ Hx D cs lo s z H _ := ⟨_, rfl, h9⟩
  clear h9
  replace h := hh
  clear hh
  replace hw := hw q15 hqq15 S29 hS29
  obtain ⟨hok, hw⟩ := hw
  refine q_putRF B h (ci := 5) (j := 16) (code := 176) (v := (some q15)) rfl inT_5 tyX5 tyX5_ok nmX5 (by decide) kF_RX5_53 rfl rfl (hin.trans rfl) rfl rfl rfl (by decide) rfl rfl dX5_init_113 hok.1 hok.2 (fun H locs h9 => ?_)
  obtain ⟨S30, hS30, hh⟩ : ∃ z, z = sR S29 176 a0 (some q15) ∧ Hx D cs lo s z H _ := ⟨_, rfl, h9⟩
  clear h9
  replace h := hh
  clear hh
  replace hw := hw S30 hS30
  refine lv_aload_n B.1.1 B.1.2.1 dX5_init_116 rfl (lv_at hl 0 rfl) ?_
  refine lv_iconst (v := (3 : Int32)) B.1.1 B.1.2.1 dX5_init_117 (by decide) ?_
  refine q_newi B h (N' := 3) kA_int (by decide) (by decide) (Nat.le_of_ble_eq_true rfl) (Nat.le_of_ble_eq_true rfl) (Nat.le_of_ble_eq_true rfl) dX5_init_118 (fun q16 H hqq16 h9 => ?_)
  obtain ⟨S31, hS31, hh⟩ : ∃ z, z = nw S30 6 3 q16 ∧ Hx D cs lo s z H _ := ⟨_, rfl, h9⟩
  clear h9
  replace h := hh
  clear hh
  replace hw := hw q16 hqq16 S31 hS31
  obtain ⟨hok, hw⟩ := hw
  refine q_putRF B h (ci := 5) (j := 17) (code := 177) (v := (some q16)) rfl inT_5 tyX5 tyX5_ok nmX5 (by decide) kF_RX5_56 rfl rfl (hin.trans rfl) rfl rfl rfl (by decide) rfl rfl dX5_init_120 hok.1 hok.2 (fun H locs h9 => ?_)
  obtain ⟨S32, hS32, hh⟩ : ∃ z, z = sR S31 177 a0 (some q16) ∧ Hx D cs lo s z H _ := ⟨_, rfl, h9⟩
  clear h9
  replace h := hh
  clear hh
  replace hw := hw S32 hS32
  refine lv_aload_n B.1.1 B.1.2.1 dX5_init_123 rfl (lv_at hl 0 rfl) ?_
  refine lv_bipush (v := (8 : Int32)) B.1.1 B.1.2.1 dX5_init_124 (by decide) ?_
  refine q_newi B h (N' := 8) kA_int (by decide) (by decide) (Nat.le_of_ble_eq_true rfl) (Nat.le_of_ble_eq_true rfl) (Nat.le_of_ble_eq_true rfl) dX5_init_126 (fun q17 H hqq17 h9 => ?_)
  obtain ⟨S33, hS33, hh⟩ : ∃ z, z = nw S32 6 8 q17 ∧ Hx D cs lo s z H _ := ⟨_, rfl, h9⟩
  clear h9
  replace h := hh
  clear hh
  replace hw := hw q17 hqq17 S33 hS33
  obtain ⟨hok, hw⟩ := hw
  refine q_putRF B h (ci := 5) (j := 18) (code := 178) (v := (some q17)) rfl inT_5 tyX5 tyX5_ok nmX5 (by decide) kF_RX5_59 rfl rfl (hin.trans rfl) rfl rfl rfl (by decide) rfl rfl dX5_init_128 hok.1 hok.2 (fun H locs h9 => ?_)
  obtain ⟨S34, hS34, hh⟩ : ∃ z, z = sR S33 178 a0 (some q17) ∧ Hx D cs lo s z H _ := ⟨_, rfl, h9⟩
  clear h9
  replace h := hh
  clear hh
  replace hw := hw S34 hS34
  refine lv_iconst (v := (0 : Int32)) B.1.1 B.1.2.1 dX5_init_131 (by decide) ?_
  refine lv_istore_n (i := 1) (lv' := [(1, .int (0 : Int32)), (0, .ref a0)]) B.1.1 B.1.2.1 dX5_init_132 rfl hl (by decide) rfl (fun ls hl9 => ?_)
  replace hl := hl9
  clear hl9
  obtain ⟨n1, hw⟩ := hw
  refine L133 a0 _ n1 (0 : Int32) _ _ _ ls h (lv_sub hl [1, 0] rfl) hw (fun u1 S38 H locs ls h9 hl9 hw9 => ?_)
  replace hw := hw9
  clear hw9
  replace h := h9
  clear h9
  replace hl := hl9
  clear hl9
  refine lv_iconst (v := (0 : Int32)) B.1.1 B.1.2.1 dX5_init_167 (by decide) ?_
  refine lv_istore_n (i := 1) (lv' := [(1, .int (0 : Int32)), (0, .ref a0)]) B.1.1 B.1.2.1 dX5_init_168 rfl hl (by decide) rfl (fun ls hl9 => ?_)
  replace hl := hl9
  clear hl9
  obtain ⟨n2, hw⟩ := hw
  refine L169 a0 _ n2 (0 : Int32) _ _ _ ls h (lv_sub hl [1, 0] rfl) hw (fun u2 S41 H locs ls h9 hl9 hw9 => ?_)
  replace hw := hw9
  clear hw9
  replace h := h9
  clear h9
  replace hl := hl9
  clear hl9
  exact q_vret B hr hlk h hw dX5_init_195 (Nat.le_of_ble_eq_true rfl) (Nat.le_of_ble_eq_true rfl)
