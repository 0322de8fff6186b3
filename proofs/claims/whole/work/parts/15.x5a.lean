theorem dX5_thrown_0 : decode cX5_thrown 0 = .ok (.aload_n 0, 1) := by decide +kernel
theorem dX5_thrown_1 : decode cX5_thrown 1 = .ok (.getfield 62, 3) := by decide +kernel
theorem dX5_thrown_4 : decode cX5_thrown 4 = .ok (.ireturn, 1) := by decide +kernel
theorem dX5_fails_0 : decode cX5_fails 0 = .ok (.aload_n 0, 1) := by decide +kernel
theorem dX5_fails_1 : decode cX5_fails 1 = .ok (.iload_n 1, 1) := by decide +kernel
theorem dX5_fails_2 : decode cX5_fails 2 = .ok (.putfield 62, 3) := by decide +kernel
theorem dX5_fails_5 : decode cX5_fails 5 = .ok (.iload_n 1, 1) := by decide +kernel
theorem dX5_fails_6 : decode cX5_fails 6 = .ok (.ifCond .le 7, 3) := by decide +kernel
theorem dX5_fails_9 : decode cX5_fails 9 = .ok (.iconst 1, 1) := by decide +kernel
theorem dX5_fails_10 : decode cX5_fails 10 = .ok (.goto 4, 3) := by decide +kernel
theorem dX5_fails_13 : decode cX5_fails 13 = .ok (.iconst 0, 1) := by decide +kernel
theorem dX5_fails_14 : decode cX5_fails 14 = .ok (.ireturn, 1) := by decide +kernel
theorem dX5_isIn_0 : decode cX5_isIn 0 = .ok (.iload_n 0, 1) := by decide +kernel
theorem dX5_isIn_1 : decode cX5_isIn 1 = .ok (.iload_n 1, 1) := by decide +kernel
theorem dX5_isIn_2 : decode cX5_isIn 2 = .ok (.if_icmp .lt 12, 3) := by decide +kernel
theorem dX5_isIn_5 : decode cX5_isIn 5 = .ok (.iload_n 0, 1) := by decide +kernel
theorem dX5_isIn_6 : decode cX5_isIn 6 = .ok (.iload_n 2, 1) := by decide +kernel
theorem dX5_isIn_7 : decode cX5_isIn 7 = .ok (.if_icmp .gt 7, 3) := by decide +kernel
theorem dX5_isIn_10 : decode cX5_isIn 10 = .ok (.iconst 1, 1) := by decide +kernel
theorem dX5_isIn_11 : decode cX5_isIn 11 = .ok (.goto 4, 3) := by decide +kernel
theorem dX5_isIn_14 : decode cX5_isIn 14 = .ok (.iconst 0, 1) := by decide +kernel
theorem dX5_isIn_15 : decode cX5_isIn 15 = .ok (.ireturn, 1) := by decide +kernel
theorem dX5_isBanner_0 : decode cX5_isBanner 0 = .ok (.iload_n 1, 1) := by decide +kernel
theorem dX5_isBanner_1 : decode cX5_isBanner 1 = .ok (.iconst 0, 1) := by decide +kernel
theorem dX5_isBanner_2 : decode cX5_isBanner 2 = .ok (.aload_n 0, 1) := by decide +kernel
theorem dX5_isBanner_3 : decode cX5_isBanner 3 = .ok (.getfield 66, 3) := by decide +kernel
theorem dX5_isBanner_6 : decode cX5_isBanner 6 = .ok (.iconst 1, 1) := by decide +kernel
theorem dX5_isBanner_7 : decode cX5_isBanner 7 = .ok (.isub, 1) := by decide +kernel
theorem dX5_isBanner_8 : decode cX5_isBanner 8 = .ok (.invokestatic 69, 3) := by decide +kernel
theorem dX5_isBanner_11 : decode cX5_isBanner 11 = .ok (.ireturn, 1) := by decide +kernel
theorem dX5_isRow_0 : decode cX5_isRow 0 = .ok (.iload_n 0, 1) := by decide +kernel
theorem dX5_isRow_1 : decode cX5_isRow 1 = .ok (.iconst 0, 1) := by decide +kernel
theorem dX5_isRow_2 : decode cX5_isRow 2 = .ok (.bipush 7, 2) := by decide +kernel
theorem dX5_isRow_4 : decode cX5_isRow 4 = .ok (.invokestatic 69, 3) := by decide +kernel
theorem dX5_isRow_7 : decode cX5_isRow 7 = .ok (.ireturn, 1) := by decide +kernel
theorem dX5_isPrinter_0 : decode cX5_isPrinter 0 = .ok (.iload_n 0, 1) := by decide +kernel
theorem dX5_isPrinter_1 : decode cX5_isPrinter 1 = .ok (.iconst 0, 1) := by decide +kernel
theorem dX5_isPrinter_2 : decode cX5_isPrinter 2 = .ok (.iconst 2, 1) := by decide +kernel
theorem dX5_isPrinter_3 : decode cX5_isPrinter 3 = .ok (.invokestatic 69, 3) := by decide +kernel
theorem dX5_isPrinter_6 : decode cX5_isPrinter 6 = .ok (.ireturn, 1) := by decide +kernel
theorem dX5_first_0 : decode cX5_first 0 = .ok (.iload_n 2, 1) := by decide +kernel
theorem dX5_first_1 : decode cX5_first 1 = .ok (.aload_n 0, 1) := by decide +kernel
theorem dX5_first_2 : decode cX5_first 2 = .ok (.getfield 13, 3) := by decide +kernel
theorem dX5_first_5 : decode cX5_first 5 = .ok (.iload_n 1, 1) := by decide +kernel
theorem dX5_first_6 : decode cX5_first 6 = .ok (.iaload, 1) := by decide +kernel
theorem dX5_first_7 : decode cX5_first 7 = .ok (.aload_n 0, 1) := by decide +kernel
theorem dX5_first_8 : decode cX5_first 8 = .ok (.getfield 16, 3) := by decide +kernel
theorem dX5_first_11 : decode cX5_first 11 = .ok (.iload_n 1, 1) := by decide +kernel
theorem dX5_first_12 : decode cX5_first 12 = .ok (.iaload, 1) := by decide +kernel
theorem dX5_first_13 : decode cX5_first 13 = .ok (.isub, 1) := by decide +kernel
theorem dX5_first_14 : decode cX5_first 14 = .ok (.imul, 1) := by decide +kernel
theorem dX5_first_15 : decode cX5_first 15 = .ok (.ireturn, 1) := by decide +kernel
theorem dX5_end_0 : decode cX5_end 0 = .ok (.aload_n 0, 1) := by decide +kernel
theorem dX5_end_1 : decode cX5_end 1 = .ok (.iload_n 1, 1) := by decide +kernel
theorem dX5_end_2 : decode cX5_end 2 = .ok (.iload_n 2, 1) := by decide +kernel
theorem dX5_end_3 : decode cX5_end 3 = .ok (.invokevirtual 84, 3) := by decide +kernel
theorem dX5_end_6 : decode cX5_end 6 = .ok (.aload_n 0, 1) := by decide +kernel
theorem dX5_end_7 : decode cX5_end 7 = .ok (.getfield 13, 3) := by decide +kernel
theorem dX5_end_10 : decode cX5_end 10 = .ok (.iload_n 1, 1) := by decide +kernel
theorem dX5_end_11 : decode cX5_end 11 = .ok (.iaload, 1) := by decide +kernel
theorem dX5_end_12 : decode cX5_end 12 = .ok (.iadd, 1) := by decide +kernel
theorem dX5_end_13 : decode cX5_end 13 = .ok (.istore_n 3, 1) := by decide +kernel
theorem dX5_end_14 : decode cX5_end 14 = .ok (.iload_n 3, 1) := by decide +kernel
theorem dX5_end_15 : decode cX5_end 15 = .ok (.aload_n 0, 1) := by decide +kernel
theorem dX5_end_16 : decode cX5_end 16 = .ok (.getfield 7, 3) := by decide +kernel
theorem dX5_end_19 : decode cX5_end 19 = .ok (.iload_n 1, 1) := by decide +kernel
theorem dX5_end_20 : decode cX5_end 20 = .ok (.iaload, 1) := by decide +kernel
theorem dX5_end_21 : decode cX5_end 21 = .ok (.if_icmp .ge 7, 3) := by decide +kernel
theorem dX5_end_24 : decode cX5_end 24 = .ok (.iload_n 3, 1) := by decide +kernel
theorem dX5_end_25 : decode cX5_end 25 = .ok (.goto 9, 3) := by decide +kernel
theorem dX5_end_28 : decode cX5_end 28 = .ok (.aload_n 0, 1) := by decide +kernel
theorem dX5_end_29 : decode cX5_end 29 = .ok (.getfield 7, 3) := by decide +kernel
theorem dX5_end_32 : decode cX5_end 32 = .ok (.iload_n 1, 1) := by decide +kernel
theorem dX5_end_33 : decode cX5_end 33 = .ok (.iaload, 1) := by decide +kernel
theorem dX5_end_34 : decode cX5_end 34 = .ok (.ireturn, 1) := by decide +kernel
theorem dX5_stripsOf_0 : decode cX5_stripsOf 0 = .ok (.iconst 1, 1) := by decide +kernel
theorem dX5_stripsOf_1 : decode cX5_stripsOf 1 = .ok (.istore_n 2, 1) := by decide +kernel
theorem dX5_stripsOf_2 : decode cX5_stripsOf 2 = .ok (.aload_n 0, 1) := by decide +kernel
theorem dX5_stripsOf_3 : decode cX5_stripsOf 3 = .ok (.iload_n 1, 1) := by decide +kernel
theorem dX5_stripsOf_4 : decode cX5_stripsOf 4 = .ok (.iload_n 2, 1) := by decide +kernel
theorem dX5_stripsOf_5 : decode cX5_stripsOf 5 = .ok (.iconst 1, 1) := by decide +kernel
theorem dX5_stripsOf_6 : decode cX5_stripsOf 6 = .ok (.isub, 1) := by decide +kernel
theorem dX5_stripsOf_7 : decode cX5_stripsOf 7 = .ok (.invokevirtual 88, 3) := by decide +kernel
theorem dX5_stripsOf_10 : decode cX5_stripsOf 10 = .ok (.aload_n 0, 1) := by decide +kernel
theorem dX5_stripsOf_11 : decode cX5_stripsOf 11 = .ok (.getfield 7, 3) := by decide +kernel
theorem dX5_stripsOf_14 : decode cX5_stripsOf 14 = .ok (.iload_n 1, 1) := by decide +kernel
theorem dX5_stripsOf_15 : decode cX5_stripsOf 15 = .ok (.iaload, 1) := by decide +kernel
theorem dX5_stripsOf_16 : decode cX5_stripsOf 16 = .ok (.if_icmp .ge 9, 3) := by decide +kernel
theorem dX5_stripsOf_19 : decode cX5_stripsOf 19 = .ok (.iinc 2 1, 3) := by decide +kernel
theorem dX5_stripsOf_22 : decode cX5_stripsOf 22 = .ok (.goto (-20), 3) := by decide +kernel
theorem dX5_stripsOf_25 : decode cX5_stripsOf 25 = .ok (.iload_n 2, 1) := by decide +kernel
theorem dX5_stripsOf_26 : decode cX5_stripsOf 26 = .ok (.ireturn, 1) := by decide +kernel
theorem dX5_isStrip_0 : decode cX5_isStrip 0 = .ok (.aload_n 0, 1) := by decide +kernel
theorem dX5_isStrip_1 : decode cX5_isStrip 1 = .ok (.iload_n 1, 1) := by decide +kernel
theorem dX5_isStrip_2 : decode cX5_isStrip 2 = .ok (.invokevirtual 73, 3) := by decide +kernel
theorem dX5_isStrip_5 : decode cX5_isStrip 5 = .ok (.ifCond .eq 22, 3) := by decide +kernel
theorem dX5_isStrip_8 : decode cX5_isStrip 8 = .ok (.iload_n 2, 1) := by decide +kernel
theorem dX5_isStrip_9 : decode cX5_isStrip 9 = .ok (.iconst 0, 1) := by decide +kernel
theorem dX5_isStrip_10 : decode cX5_isStrip 10 = .ok (.aload_n 0, 1) := by decide +kernel
theorem dX5_isStrip_11 : decode cX5_isStrip 11 = .ok (.iload_n 1, 1) := by decide +kernel
theorem dX5_isStrip_12 : decode cX5_isStrip 12 = .ok (.invokevirtual 77, 3) := by decide +kernel
theorem dX5_isStrip_15 : decode cX5_isStrip 15 = .ok (.iconst 1, 1) := by decide +kernel
theorem dX5_isStrip_16 : decode cX5_isStrip 16 = .ok (.isub, 1) := by decide +kernel
theorem dX5_isStrip_17 : decode cX5_isStrip 17 = .ok (.invokestatic 69, 3) := by decide +kernel
theorem dX5_isStrip_20 : decode cX5_isStrip 20 = .ok (.ifCond .eq 7, 3) := by decide +kernel
theorem dX5_isStrip_23 : decode cX5_isStrip 23 = .ok (.iconst 1, 1) := by decide +kernel
theorem dX5_isStrip_24 : decode cX5_isStrip 24 = .ok (.goto 4, 3) := by decide +kernel
theorem dX5_isStrip_27 : decode cX5_isStrip 27 = .ok (.iconst 0, 1) := by decide +kernel
theorem dX5_isStrip_28 : decode cX5_isStrip 28 = .ok (.ireturn, 1) := by decide +kernel
theorem dX5_isDot_0 : decode cX5_isDot 0 = .ok (.aload_n 0, 1) := by decide +kernel
theorem dX5_isDot_1 : decode cX5_isDot 1 = .ok (.iload_n 1, 1) := by decide +kernel
theorem dX5_isDot_2 : decode cX5_isDot 2 = .ok (.invokevirtual 73, 3) := by decide +kernel
theorem dX5_isDot_5 : decode cX5_isDot 5 = .ok (.ifCond .eq 30, 3) := by decide +kernel
theorem dX5_isDot_8 : decode cX5_isDot 8 = .ok (.iload_n 2, 1) := by decide +kernel
theorem dX5_isDot_9 : decode cX5_isDot 9 = .ok (.invokestatic 81, 3) := by decide +kernel
theorem dX5_isDot_12 : decode cX5_isDot 12 = .ok (.ifCond .eq 23, 3) := by decide +kernel
theorem dX5_isDot_15 : decode cX5_isDot 15 = .ok (.iload_n 3, 1) := by decide +kernel
theorem dX5_isDot_16 : decode cX5_isDot 16 = .ok (.iconst 0, 1) := by decide +kernel
theorem dX5_isDot_17 : decode cX5_isDot 17 = .ok (.aload_n 0, 1) := by decide +kernel
theorem dX5_isDot_18 : decode cX5_isDot 18 = .ok (.getfield 7, 3) := by decide +kernel
theorem dX5_isDot_21 : decode cX5_isDot 21 = .ok (.iload_n 1, 1) := by decide +kernel
theorem dX5_isDot_22 : decode cX5_isDot 22 = .ok (.iaload, 1) := by decide +kernel
theorem dX5_isDot_23 : decode cX5_isDot 23 = .ok (.iconst 1, 1) := by decide +kernel
theorem dX5_isDot_24 : decode cX5_isDot 24 = .ok (.isub, 1) := by decide +kernel
theorem dX5_isDot_25 : decode cX5_isDot 25 = .ok (.invokestatic 69, 3) := by decide +kernel
theorem dX5_isDot_28 : decode cX5_isDot 28 = .ok (.ifCond .eq 7, 3) := by decide +kernel
theorem dX5_isDot_31 : decode cX5_isDot 31 = .ok (.iconst 1, 1) := by decide +kernel
theorem dX5_isDot_32 : decode cX5_isDot 32 = .ok (.goto 4, 3) := by decide +kernel
theorem dX5_isDot_35 : decode cX5_isDot 35 = .ok (.iconst 0, 1) := by decide +kernel
theorem dX5_isDot_36 : decode cX5_isDot 36 = .ok (.ireturn, 1) := by decide +kernel
theorem dX5_dot_0 : decode cX5_dot 0 = .ok (.bipush 32, 2) := by decide +kernel
theorem dX5_dot_2 : decode cX5_dot 2 = .ok (.bipush 8, 2) := by decide +kernel
theorem dX5_dot_4 : decode cX5_dot 4 = .ok (.iload_n 0, 1) := by decide +kernel
theorem dX5_dot_5 : decode cX5_dot 5 = .ok (.imul, 1) := by decide +kernel
theorem dX5_dot_6 : decode cX5_dot 6 = .ok (.iload_n 1, 1) := by decide +kernel
theorem dX5_dot_7 : decode cX5_dot 7 = .ok (.iadd, 1) := by decide +kernel
theorem dX5_dot_8 : decode cX5_dot 8 = .ok (.imul, 1) := by decide +kernel
theorem dX5_dot_9 : decode cX5_dot 9 = .ok (.iload_n 2, 1) := by decide +kernel
theorem dX5_dot_10 : decode cX5_dot 10 = .ok (.iadd, 1) := by decide +kernel
theorem dX5_dot_11 : decode cX5_dot 11 = .ok (.ireturn, 1) := by decide +kernel
theorem dX5_has_0 : decode cX5_has 0 = .ok (.iload_n 2, 1) := by decide +kernel
theorem dX5_has_1 : decode cX5_has 1 = .ok (.iconst 0, 1) := by decide +kernel
theorem dX5_has_2 : decode cX5_has 2 = .ok (.aload_n 0, 1) := by decide +kernel
theorem dX5_has_3 : decode cX5_has 3 = .ok (.iload_n 1, 1) := by decide +kernel
theorem dX5_has_4 : decode cX5_has 4 = .ok (.invokevirtual 77, 3) := by decide +kernel
theorem dX5_has_7 : decode cX5_has 7 = .ok (.iconst 1, 1) := by decide +kernel
theorem dX5_has_8 : decode cX5_has 8 = .ok (.isub, 1) := by decide +kernel
theorem dX5_has_9 : decode cX5_has 9 = .ok (.invokestatic 69, 3) := by decide +kernel
theorem dX5_has_12 : decode cX5_has 12 = .ok (.ifCond .eq 28, 3) := by decide +kernel
theorem dX5_has_15 : decode cX5_has 15 = .ok (.iload_n 3, 1) := by decide +kernel
theorem dX5_has_16 : decode cX5_has 16 = .ok (.aload_n 0, 1) := by decide +kernel
theorem dX5_has_17 : decode cX5_has 17 = .ok (.iload_n 1, 1) := by decide +kernel
theorem dX5_has_18 : decode cX5_has 18 = .ok (.iload_n 2, 1) := by decide +kernel
theorem dX5_has_19 : decode cX5_has 19 = .ok (.invokevirtual 84, 3) := by decide +kernel
theorem dX5_has_22 : decode cX5_has 22 = .ok (.aload_n 0, 1) := by decide +kernel
theorem dX5_has_23 : decode cX5_has 23 = .ok (.iload_n 1, 1) := by decide +kernel
theorem dX5_has_24 : decode cX5_has 24 = .ok (.iload_n 2, 1) := by decide +kernel
theorem dX5_has_25 : decode cX5_has 25 = .ok (.invokevirtual 88, 3) := by decide +kernel
theorem dX5_has_28 : decode cX5_has 28 = .ok (.iconst 1, 1) := by decide +kernel
theorem dX5_has_29 : decode cX5_has 29 = .ok (.isub, 1) := by decide +kernel
theorem dX5_has_30 : decode cX5_has 30 = .ok (.invokestatic 69, 3) := by decide +kernel
theorem dX5_has_33 : decode cX5_has 33 = .ok (.ifCond .eq 7, 3) := by decide +kernel
theorem dX5_has_36 : decode cX5_has 36 = .ok (.iconst 1, 1) := by decide +kernel
theorem dX5_has_37 : decode cX5_has 37 = .ok (.goto 4, 3) := by decide +kernel
theorem dX5_has_40 : decode cX5_has 40 = .ok (.iconst 0, 1) := by decide +kernel
theorem dX5_has_41 : decode cX5_has 41 = .ok (.ireturn, 1) := by decide +kernel
theorem dX5_lays_0 : decode cX5_lays 0 = .ok (.aload_n 0, 1) := by decide +kernel
theorem dX5_lays_1 : decode cX5_lays 1 = .ok (.getfield 25, 3) := by decide +kernel
theorem dX5_lays_4 : decode cX5_lays 4 = .ok (.iload_n 1, 1) := by decide +kernel
theorem dX5_lays_5 : decode cX5_lays 5 = .ok (.iload_n 3, 1) := by decide +kernel
theorem dX5_lays_6 : decode cX5_lays 6 = .ok (.iload 4, 2) := by decide +kernel
theorem dX5_lays_8 : decode cX5_lays 8 = .ok (.invokestatic 97, 3) := by decide +kernel
theorem dX5_lays_11 : decode cX5_lays 11 = .ok (.iaload, 1) := by decide +kernel
theorem dX5_lays_12 : decode cX5_lays 12 = .ok (.istore 5, 2) := by decide +kernel
theorem dX5_lays_14 : decode cX5_lays 14 = .ok (.aload_n 0, 1) := by decide +kernel
theorem dX5_lays_15 : decode cX5_lays 15 = .ok (.iload_n 1, 1) := by decide +kernel
theorem dX5_lays_16 : decode cX5_lays 16 = .ok (.iload_n 2, 1) := by decide +kernel
theorem dX5_lays_17 : decode cX5_lays 17 = .ok (.iload 4, 2) := by decide +kernel
theorem dX5_lays_19 : decode cX5_lays 19 = .ok (.invokevirtual 101, 3) := by decide +kernel
theorem dX5_lays_22 : decode cX5_lays 22 = .ok (.ifCond .ne 5, 3) := by decide +kernel
theorem dX5_lays_25 : decode cX5_lays 25 = .ok (.iconst 0, 1) := by decide +kernel
theorem dX5_lays_26 : decode cX5_lays 26 = .ok (.ireturn, 1) := by decide +kernel
theorem dX5_lays_27 : decode cX5_lays 27 = .ok (.aload_n 0, 1) := by decide +kernel
theorem dX5_lays_28 : decode cX5_lays 28 = .ok (.iload_n 1, 1) := by decide +kernel
theorem dX5_lays_29 : decode cX5_lays 29 = .ok (.iload_n 2, 1) := by decide +kernel
theorem dX5_lays_30 : decode cX5_lays 30 = .ok (.iconst 1, 1) := by decide +kernel
theorem dX5_lays_31 : decode cX5_lays 31 = .ok (.iadd, 1) := by decide +kernel
theorem dX5_lays_32 : decode cX5_lays 32 = .ok (.iload 4, 2) := by decide +kernel
theorem dX5_lays_34 : decode cX5_lays 34 = .ok (.invokevirtual 101, 3) := by decide +kernel
theorem dX5_lays_37 : decode cX5_lays 37 = .ok (.ifCond .eq 12, 3) := by decide +kernel
theorem dX5_lays_40 : decode cX5_lays 40 = .ok (.iload 5, 2) := by decide +kernel
theorem dX5_lays_42 : decode cX5_lays 42 = .ok (.iconst 1, 1) := by decide +kernel
theorem dX5_lays_43 : decode cX5_lays 43 = .ok (.iadd, 1) := by decide +kernel
theorem dX5_lays_44 : decode cX5_lays 44 = .ok (.iconst 2, 1) := by decide +kernel
theorem dX5_lays_45 : decode cX5_lays 45 = .ok (.idiv, 1) := by decide +kernel
theorem dX5_lays_46 : decode cX5_lays 46 = .ok (.goto 25, 3) := by decide +kernel
theorem dX5_lays_49 : decode cX5_lays 49 = .ok (.aload_n 0, 1) := by decide +kernel
theorem dX5_lays_50 : decode cX5_lays 50 = .ok (.iload_n 1, 1) := by decide +kernel
theorem dX5_lays_51 : decode cX5_lays 51 = .ok (.iload_n 2, 1) := by decide +kernel
theorem dX5_lays_52 : decode cX5_lays 52 = .ok (.iconst 1, 1) := by decide +kernel
theorem dX5_lays_53 : decode cX5_lays 53 = .ok (.isub, 1) := by decide +kernel
theorem dX5_lays_54 : decode cX5_lays 54 = .ok (.iload 4, 2) := by decide +kernel
theorem dX5_lays_56 : decode cX5_lays 56 = .ok (.invokevirtual 101, 3) := by decide +kernel
theorem dX5_lays_59 : decode cX5_lays 59 = .ok (.ifCond .eq 10, 3) := by decide +kernel
theorem dX5_lays_62 : decode cX5_lays 62 = .ok (.iload 5, 2) := by decide +kernel
theorem dX5_lays_64 : decode cX5_lays 64 = .ok (.iconst 2, 1) := by decide +kernel
theorem dX5_lays_65 : decode cX5_lays 65 = .ok (.idiv, 1) := by decide +kernel
theorem dX5_lays_66 : decode cX5_lays 66 = .ok (.goto 5, 3) := by decide +kernel
theorem dX5_lays_69 : decode cX5_lays 69 = .ok (.iload 5, 2) := by decide +kernel
theorem dX5_lays_71 : decode cX5_lays 71 = .ok (.ireturn, 1) := by decide +kernel
theorem dX5_blocked_0 : decode cX5_blocked 0 = .ok (.iconst 0, 1) := by decide +kernel
theorem dX5_blocked_1 : decode cX5_blocked 1 = .ok (.istore_n 2, 1) := by decide +kernel
theorem dX5_blocked_2 : decode cX5_blocked 2 = .ok (.iconst 0, 1) := by decide +kernel
theorem dX5_blocked_3 : decode cX5_blocked 3 = .ok (.istore_n 3, 1) := by decide +kernel
theorem dX5_blocked_4 : decode cX5_blocked 4 = .ok (.iload_n 3, 1) := by decide +kernel
theorem dX5_blocked_5 : decode cX5_blocked 5 = .ok (.bipush 8, 2) := by decide +kernel
theorem dX5_blocked_7 : decode cX5_blocked 7 = .ok (.if_icmp .ge 31, 3) := by decide +kernel
theorem dX5_blocked_10 : decode cX5_blocked 10 = .ok (.iload_n 2, 1) := by decide +kernel
theorem dX5_blocked_11 : decode cX5_blocked 11 = .ok (.aload_n 0, 1) := by decide +kernel
theorem dX5_blocked_12 : decode cX5_blocked 12 = .ok (.getfield 46, 3) := by decide +kernel
theorem dX5_blocked_15 : decode cX5_blocked 15 = .ok (.bipush 8, 2) := by decide +kernel
theorem dX5_blocked_17 : decode cX5_blocked 17 = .ok (.iload_n 1, 1) := by decide +kernel
theorem dX5_blocked_18 : decode cX5_blocked 18 = .ok (.imul, 1) := by decide +kernel
theorem dX5_blocked_19 : decode cX5_blocked 19 = .ok (.iload_n 3, 1) := by decide +kernel
theorem dX5_blocked_20 : decode cX5_blocked 20 = .ok (.iadd, 1) := by decide +kernel
theorem dX5_blocked_21 : decode cX5_blocked 21 = .ok (.baload, 1) := by decide +kernel
theorem dX5_blocked_22 : decode cX5_blocked 22 = .ok (.ifCond .eq 7, 3) := by decide +kernel
theorem dX5_blocked_25 : decode cX5_blocked 25 = .ok (.iconst 1, 1) := by decide +kernel
theorem dX5_blocked_26 : decode cX5_blocked 26 = .ok (.goto 4, 3) := by decide +kernel
theorem dX5_blocked_29 : decode cX5_blocked 29 = .ok (.iconst 0, 1) := by decide +kernel
theorem dX5_blocked_30 : decode cX5_blocked 30 = .ok (.iadd, 1) := by decide +kernel
theorem dX5_blocked_31 : decode cX5_blocked 31 = .ok (.istore_n 2, 1) := by decide +kernel
theorem dX5_blocked_32 : decode cX5_blocked 32 = .ok (.iinc 3 1, 3) := by decide +kernel
theorem dX5_blocked_35 : decode cX5_blocked 35 = .ok (.goto (-31), 3) := by decide +kernel
theorem dX5_blocked_38 : decode cX5_blocked 38 = .ok (.iload_n 2, 1) := by decide +kernel
theorem dX5_blocked_39 : decode cX5_blocked 39 = .ok (.ireturn, 1) := by decide +kernel
theorem dX5_wants_0 : decode cX5_wants 0 = .ok (.iload_n 3, 1) := by decide +kernel
theorem dX5_wants_1 : decode cX5_wants 1 = .ok (.aload_n 0, 1) := by decide +kernel
theorem dX5_wants_2 : decode cX5_wants 2 = .ok (.getfield 43, 3) := by decide +kernel
theorem dX5_wants_5 : decode cX5_wants 5 = .ok (.iload_n 1, 1) := by decide +kernel
theorem dX5_wants_6 : decode cX5_wants 6 = .ok (.iaload, 1) := by decide +kernel
theorem dX5_wants_7 : decode cX5_wants 7 = .ok (.imul, 1) := by decide +kernel
theorem dX5_wants_8 : decode cX5_wants 8 = .ok (.bipush 100, 2) := by decide +kernel
theorem dX5_wants_10 : decode cX5_wants 10 = .ok (.idiv, 1) := by decide +kernel
theorem dX5_wants_11 : decode cX5_wants 11 = .ok (.istore 4, 2) := by decide +kernel
theorem dX5_wants_13 : decode cX5_wants 13 = .ok (.aload_n 0, 1) := by decide +kernel
theorem dX5_wants_14 : decode cX5_wants 14 = .ok (.getfield 59, 3) := by decide +kernel
theorem dX5_wants_17 : decode cX5_wants 17 = .ok (.iload_n 2, 1) := by decide +kernel
theorem dX5_wants_18 : decode cX5_wants 18 = .ok (.iload 4, 2) := by decide +kernel
theorem dX5_wants_20 : decode cX5_wants 20 = .ok (.bipush 15, 2) := by decide +kernel
theorem dX5_wants_22 : decode cX5_wants 22 = .ok (.if_icmp .le 8, 3) := by decide +kernel
theorem dX5_wants_25 : decode cX5_wants 25 = .ok (.bipush 15, 2) := by decide +kernel
theorem dX5_wants_27 : decode cX5_wants 27 = .ok (.goto 5, 3) := by decide +kernel
theorem dX5_wants_30 : decode cX5_wants 30 = .ok (.iload 4, 2) := by decide +kernel
theorem dX5_wants_32 : decode cX5_wants 32 = .ok (.iastore, 1) := by decide +kernel
theorem dX5_wants_33 : decode cX5_wants 33 = .ok (.return_, 1) := by decide +kernel
theorem dX5_isOff_0 : decode cX5_isOff 0 = .ok (.iload_n 2, 1) := by decide +kernel
theorem dX5_isOff_1 : decode cX5_isOff 1 = .ok (.invokestatic 81, 3) := by decide +kernel
theorem dX5_isOff_4 : decode cX5_isOff 4 = .ok (.ifCond .eq 21, 3) := by decide +kernel
theorem dX5_isOff_7 : decode cX5_isOff 7 = .ok (.aload_n 0, 1) := by decide +kernel
theorem dX5_isOff_8 : decode cX5_isOff 8 = .ok (.getfield 46, 3) := by decide +kernel
theorem dX5_isOff_11 : decode cX5_isOff 11 = .ok (.bipush 8, 2) := by decide +kernel
theorem dX5_isOff_13 : decode cX5_isOff 13 = .ok (.iload_n 1, 1) := by decide +kernel
theorem dX5_isOff_14 : decode cX5_isOff 14 = .ok (.imul, 1) := by decide +kernel
theorem dX5_isOff_15 : decode cX5_isOff 15 = .ok (.iload_n 2, 1) := by decide +kernel
theorem dX5_isOff_16 : decode cX5_isOff 16 = .ok (.iadd, 1) := by decide +kernel
theorem dX5_isOff_17 : decode cX5_isOff 17 = .ok (.baload, 1) := by decide +kernel
theorem dX5_isOff_18 : decode cX5_isOff 18 = .ok (.ifCond .eq 7, 3) := by decide +kernel
theorem dX5_isOff_21 : decode cX5_isOff 21 = .ok (.iconst 1, 1) := by decide +kernel
theorem dX5_isOff_22 : decode cX5_isOff 22 = .ok (.goto 4, 3) := by decide +kernel
theorem dX5_isOff_25 : decode cX5_isOff 25 = .ok (.iconst 0, 1) := by decide +kernel
theorem dX5_isOff_26 : decode cX5_isOff 26 = .ok (.ireturn, 1) := by decide +kernel
theorem dX5_nozzle_0 : decode cX5_nozzle 0 = .ok (.aload_n 0, 1) := by decide +kernel
theorem dX5_nozzle_1 : decode cX5_nozzle 1 = .ok (.iload_n 1, 1) := by decide +kernel
theorem dX5_nozzle_2 : decode cX5_nozzle 2 = .ok (.iload_n 2, 1) := by decide +kernel
theorem dX5_nozzle_3 : decode cX5_nozzle 3 = .ok (.invokevirtual 118, 3) := by decide +kernel
theorem dX5_nozzle_6 : decode cX5_nozzle 6 = .ok (.ifCond .eq 5, 3) := by decide +kernel
theorem dX5_nozzle_9 : decode cX5_nozzle 9 = .ok (.iconst 0, 1) := by decide +kernel
theorem dX5_nozzle_10 : decode cX5_nozzle 10 = .ok (.ireturn, 1) := by decide +kernel
theorem dX5_nozzle_11 : decode cX5_nozzle 11 = .ok (.aload_n 0, 1) := by decide +kernel
theorem dX5_nozzle_12 : decode cX5_nozzle 12 = .ok (.getfield 59, 3) := by decide +kernel
theorem dX5_nozzle_15 : decode cX5_nozzle 15 = .ok (.iload_n 2, 1) := by decide +kernel
theorem dX5_nozzle_16 : decode cX5_nozzle 16 = .ok (.iaload, 1) := by decide +kernel
theorem dX5_nozzle_17 : decode cX5_nozzle 17 = .ok (.istore_n 3, 1) := by decide +kernel
theorem dX5_nozzle_18 : decode cX5_nozzle 18 = .ok (.iload_n 3, 1) := by decide +kernel
theorem dX5_nozzle_19 : decode cX5_nozzle 19 = .ok (.aload_n 0, 1) := by decide +kernel
theorem dX5_nozzle_20 : decode cX5_nozzle 20 = .ok (.iload_n 1, 1) := by decide +kernel
theorem dX5_nozzle_21 : decode cX5_nozzle 21 = .ok (.iload_n 2, 1) := by decide +kernel
theorem dX5_nozzle_22 : decode cX5_nozzle 22 = .ok (.iconst 1, 1) := by decide +kernel
theorem dX5_nozzle_23 : decode cX5_nozzle 23 = .ok (.iadd, 1) := by decide +kernel
theorem dX5_nozzle_24 : decode cX5_nozzle 24 = .ok (.invokevirtual 118, 3) := by decide +kernel
theorem dX5_nozzle_27 : decode cX5_nozzle 27 = .ok (.ifCond .eq 18, 3) := by decide +kernel
theorem dX5_nozzle_30 : decode cX5_nozzle 30 = .ok (.aload_n 0, 1) := by decide +kernel
theorem dX5_nozzle_31 : decode cX5_nozzle 31 = .ok (.getfield 59, 3) := by decide +kernel
theorem dX5_nozzle_34 : decode cX5_nozzle 34 = .ok (.iload_n 2, 1) := by decide +kernel
theorem dX5_nozzle_35 : decode cX5_nozzle 35 = .ok (.iconst 1, 1) := by decide +kernel
theorem dX5_nozzle_36 : decode cX5_nozzle 36 = .ok (.iadd, 1) := by decide +kernel
theorem dX5_nozzle_37 : decode cX5_nozzle 37 = .ok (.iaload, 1) := by decide +kernel
theorem dX5_nozzle_38 : decode cX5_nozzle 38 = .ok (.iconst 1, 1) := by decide +kernel
theorem dX5_nozzle_39 : decode cX5_nozzle 39 = .ok (.iadd, 1) := by decide +kernel
theorem dX5_nozzle_40 : decode cX5_nozzle 40 = .ok (.iconst 2, 1) := by decide +kernel
theorem dX5_nozzle_41 : decode cX5_nozzle 41 = .ok (.idiv, 1) := by decide +kernel
theorem dX5_nozzle_42 : decode cX5_nozzle 42 = .ok (.goto 4, 3) := by decide +kernel
theorem dX5_nozzle_45 : decode cX5_nozzle 45 = .ok (.iconst 0, 1) := by decide +kernel
theorem dX5_nozzle_46 : decode cX5_nozzle 46 = .ok (.iadd, 1) := by decide +kernel
theorem dX5_nozzle_47 : decode cX5_nozzle 47 = .ok (.istore_n 3, 1) := by decide +kernel
theorem dX5_nozzle_48 : decode cX5_nozzle 48 = .ok (.iload_n 3, 1) := by decide +kernel
theorem dX5_nozzle_49 : decode cX5_nozzle 49 = .ok (.aload_n 0, 1) := by decide +kernel
theorem dX5_nozzle_50 : decode cX5_nozzle 50 = .ok (.iload_n 1, 1) := by decide +kernel
theorem dX5_nozzle_51 : decode cX5_nozzle 51 = .ok (.iload_n 2, 1) := by decide +kernel
theorem dX5_nozzle_52 : decode cX5_nozzle 52 = .ok (.iconst 1, 1) := by decide +kernel
theorem dX5_nozzle_53 : decode cX5_nozzle 53 = .ok (.isub, 1) := by decide +kernel
theorem dX5_nozzle_54 : decode cX5_nozzle 54 = .ok (.invokevirtual 118, 3) := by decide +kernel
theorem dX5_nozzle_57 : decode cX5_nozzle 57 = .ok (.ifCond .eq 16, 3) := by decide +kernel
theorem dX5_nozzle_60 : decode cX5_nozzle 60 = .ok (.aload_n 0, 1) := by decide +kernel
theorem dX5_nozzle_61 : decode cX5_nozzle 61 = .ok (.getfield 59, 3) := by decide +kernel
theorem dX5_nozzle_64 : decode cX5_nozzle 64 = .ok (.iload_n 2, 1) := by decide +kernel
theorem dX5_nozzle_65 : decode cX5_nozzle 65 = .ok (.iconst 1, 1) := by decide +kernel
theorem dX5_nozzle_66 : decode cX5_nozzle 66 = .ok (.isub, 1) := by decide +kernel
theorem dX5_nozzle_67 : decode cX5_nozzle 67 = .ok (.iaload, 1) := by decide +kernel
theorem dX5_nozzle_68 : decode cX5_nozzle 68 = .ok (.iconst 2, 1) := by decide +kernel
theorem dX5_nozzle_69 : decode cX5_nozzle 69 = .ok (.idiv, 1) := by decide +kernel
theorem dX5_nozzle_70 : decode cX5_nozzle 70 = .ok (.goto 4, 3) := by decide +kernel
theorem dX5_nozzle_73 : decode cX5_nozzle 73 = .ok (.iconst 0, 1) := by decide +kernel
theorem dX5_nozzle_74 : decode cX5_nozzle 74 = .ok (.iadd, 1) := by decide +kernel
theorem dX5_nozzle_75 : decode cX5_nozzle 75 = .ok (.istore_n 3, 1) := by decide +kernel
theorem dX5_nozzle_76 : decode cX5_nozzle 76 = .ok (.iload_n 3, 1) := by decide +kernel
theorem dX5_nozzle_77 : decode cX5_nozzle 77 = .ok (.bipush 15, 2) := by decide +kernel
theorem dX5_nozzle_79 : decode cX5_nozzle 79 = .ok (.if_icmp .le 8, 3) := by decide +kernel
theorem dX5_nozzle_82 : decode cX5_nozzle 82 = .ok (.bipush 15, 2) := by decide +kernel
theorem dX5_nozzle_84 : decode cX5_nozzle 84 = .ok (.goto 4, 3) := by decide +kernel
theorem dX5_nozzle_87 : decode cX5_nozzle 87 = .ok (.iload_n 3, 1) := by decide +kernel
theorem dX5_nozzle_88 : decode cX5_nozzle 88 = .ok (.istore_n 3, 1) := by decide +kernel
theorem dX5_nozzle_89 : decode cX5_nozzle 89 = .ok (.iload_n 3, 1) := by decide +kernel
theorem dX5_nozzle_90 : decode cX5_nozzle 90 = .ok (.aload_n 0, 1) := by decide +kernel
theorem dX5_nozzle_91 : decode cX5_nozzle 91 = .ok (.getfield 40, 3) := by decide +kernel
theorem dX5_nozzle_94 : decode cX5_nozzle 94 = .ok (.iload_n 1, 1) := by decide +kernel
theorem dX5_nozzle_95 : decode cX5_nozzle 95 = .ok (.iaload, 1) := by decide +kernel
theorem dX5_nozzle_96 : decode cX5_nozzle 96 = .ok (.imul, 1) := by decide +kernel
theorem dX5_nozzle_97 : decode cX5_nozzle 97 = .ok (.bipush 100, 2) := by decide +kernel
theorem dX5_nozzle_99 : decode cX5_nozzle 99 = .ok (.idiv, 1) := by decide +kernel
theorem dX5_nozzle_100 : decode cX5_nozzle 100 = .ok (.ireturn, 1) := by decide +kernel
theorem dX5_isPrinting_0 : decode cX5_isPrinting 0 = .ok (.iconst 0, 1) := by decide +kernel
theorem dX5_isPrinting_1 : decode cX5_isPrinting 1 = .ok (.istore_n 2, 1) := by decide +kernel
theorem dX5_isPrinting_2 : decode cX5_isPrinting 2 = .ok (.iconst 0, 1) := by decide +kernel
theorem dX5_isPrinting_3 : decode cX5_isPrinting 3 = .ok (.istore_n 3, 1) := by decide +kernel
theorem dX5_isPrinting_4 : decode cX5_isPrinting 4 = .ok (.iload_n 3, 1) := by decide +kernel
theorem dX5_isPrinting_5 : decode cX5_isPrinting 5 = .ok (.iconst 3, 1) := by decide +kernel
theorem dX5_isPrinting_6 : decode cX5_isPrinting 6 = .ok (.if_icmp .ge 29, 3) := by decide +kernel
theorem dX5_isPrinting_9 : decode cX5_isPrinting 9 = .ok (.iload_n 2, 1) := by decide +kernel
theorem dX5_isPrinting_10 : decode cX5_isPrinting 10 = .ok (.ifCond .ne 13, 3) := by decide +kernel
theorem dX5_isPrinting_13 : decode cX5_isPrinting 13 = .ok (.aload_n 0, 1) := by decide +kernel
theorem dX5_isPrinting_14 : decode cX5_isPrinting 14 = .ok (.getfield 53, 3) := by decide +kernel
theorem dX5_isPrinting_17 : decode cX5_isPrinting 17 = .ok (.iload_n 3, 1) := by decide +kernel
theorem dX5_isPrinting_18 : decode cX5_isPrinting 18 = .ok (.iaload, 1) := by decide +kernel
theorem dX5_isPrinting_19 : decode cX5_isPrinting 19 = .ok (.iload_n 1, 1) := by decide +kernel
theorem dX5_isPrinting_20 : decode cX5_isPrinting 20 = .ok (.if_icmp .ne 7, 3) := by decide +kernel
theorem dX5_isPrinting_23 : decode cX5_isPrinting 23 = .ok (.iconst 1, 1) := by decide +kernel
theorem dX5_isPrinting_24 : decode cX5_isPrinting 24 = .ok (.goto 4, 3) := by decide +kernel
theorem dX5_isPrinting_27 : decode cX5_isPrinting 27 = .ok (.iconst 0, 1) := by decide +kernel
theorem dX5_isPrinting_28 : decode cX5_isPrinting 28 = .ok (.istore_n 2, 1) := by decide +kernel
theorem dX5_isPrinting_29 : decode cX5_isPrinting 29 = .ok (.iinc 3 1, 3) := by decide +kernel
theorem dX5_isPrinting_32 : decode cX5_isPrinting 32 = .ok (.goto (-28), 3) := by decide +kernel
theorem dX5_isPrinting_35 : decode cX5_isPrinting 35 = .ok (.iload_n 2, 1) := by decide +kernel
theorem dX5_isPrinting_36 : decode cX5_isPrinting 36 = .ok (.ireturn, 1) := by decide +kernel
theorem dX5_takes_0 : decode cX5_takes 0 = .ok (.iconst (-1), 1) := by decide +kernel
theorem dX5_takes_1 : decode cX5_takes 1 = .ok (.istore_n 2, 1) := by decide +kernel
theorem dX5_takes_2 : decode cX5_takes 2 = .ok (.iconst 0, 1) := by decide +kernel
theorem dX5_takes_3 : decode cX5_takes 3 = .ok (.istore_n 3, 1) := by decide +kernel
theorem dX5_takes_4 : decode cX5_takes 4 = .ok (.iload_n 3, 1) := by decide +kernel
theorem dX5_takes_5 : decode cX5_takes 5 = .ok (.bipush 80, 2) := by decide +kernel
theorem dX5_takes_7 : decode cX5_takes 7 = .ok (.if_icmp .ge 63, 3) := by decide +kernel
theorem dX5_takes_10 : decode cX5_takes 10 = .ok (.aload_n 0, 1) := by decide +kernel
theorem dX5_takes_11 : decode cX5_takes 11 = .ok (.getfield 31, 3) := by decide +kernel
theorem dX5_takes_14 : decode cX5_takes 14 = .ok (.iload_n 3, 1) := by decide +kernel
theorem dX5_takes_15 : decode cX5_takes 15 = .ok (.iaload, 1) := by decide +kernel
theorem dX5_takes_16 : decode cX5_takes 16 = .ok (.iload_n 1, 1) := by decide +kernel
theorem dX5_takes_17 : decode cX5_takes 17 = .ok (.if_icmp .ne 33, 3) := by decide +kernel
theorem dX5_takes_20 : decode cX5_takes 20 = .ok (.iload_n 2, 1) := by decide +kernel
theorem dX5_takes_21 : decode cX5_takes 21 = .ok (.iconst (-1), 1) := by decide +kernel
theorem dX5_takes_22 : decode cX5_takes 22 = .ok (.if_icmp .eq 24, 3) := by decide +kernel
theorem dX5_takes_25 : decode cX5_takes 25 = .ok (.aload_n 0, 1) := by decide +kernel
theorem dX5_takes_26 : decode cX5_takes 26 = .ok (.getfield 22, 3) := by decide +kernel
theorem dX5_takes_29 : decode cX5_takes 29 = .ok (.iload_n 3, 1) := by decide +kernel
theorem dX5_takes_30 : decode cX5_takes 30 = .ok (.bipush 16, 2) := by decide +kernel
theorem dX5_takes_32 : decode cX5_takes 32 = .ok (.idiv, 1) := by decide +kernel
theorem dX5_takes_33 : decode cX5_takes 33 = .ok (.iaload, 1) := by decide +kernel
theorem dX5_takes_34 : decode cX5_takes 34 = .ok (.aload_n 0, 1) := by decide +kernel
theorem dX5_takes_35 : decode cX5_takes 35 = .ok (.getfield 22, 3) := by decide +kernel
theorem dX5_takes_38 : decode cX5_takes 38 = .ok (.iload_n 2, 1) := by decide +kernel
theorem dX5_takes_39 : decode cX5_takes 39 = .ok (.bipush 16, 2) := by decide +kernel
theorem dX5_takes_41 : decode cX5_takes 41 = .ok (.idiv, 1) := by decide +kernel
theorem dX5_takes_42 : decode cX5_takes 42 = .ok (.iaload, 1) := by decide +kernel
theorem dX5_takes_43 : decode cX5_takes 43 = .ok (.if_icmp .ge 7, 3) := by decide +kernel
theorem dX5_takes_46 : decode cX5_takes 46 = .ok (.iconst 1, 1) := by decide +kernel
theorem dX5_takes_47 : decode cX5_takes 47 = .ok (.goto 4, 3) := by decide +kernel
theorem dX5_takes_50 : decode cX5_takes 50 = .ok (.iconst 0, 1) := by decide +kernel
theorem dX5_takes_51 : decode cX5_takes 51 = .ok (.istore 4, 2) := by decide +kernel
theorem dX5_takes_53 : decode cX5_takes 53 = .ok (.iload 4, 2) := by decide +kernel
theorem dX5_takes_55 : decode cX5_takes 55 = .ok (.ifCond .eq 7, 3) := by decide +kernel
theorem dX5_takes_58 : decode cX5_takes 58 = .ok (.iload_n 3, 1) := by decide +kernel
theorem dX5_takes_59 : decode cX5_takes 59 = .ok (.goto 4, 3) := by decide +kernel
theorem dX5_takes_62 : decode cX5_takes 62 = .ok (.iload_n 2, 1) := by decide +kernel
theorem dX5_takes_63 : decode cX5_takes 63 = .ok (.istore_n 2, 1) := by decide +kernel
theorem dX5_takes_64 : decode cX5_takes 64 = .ok (.iinc 3 1, 3) := by decide +kernel
theorem dX5_takes_67 : decode cX5_takes 67 = .ok (.goto (-63), 3) := by decide +kernel
theorem dX5_takes_70 : decode cX5_takes 70 = .ok (.iload_n 2, 1) := by decide +kernel
theorem dX5_takes_71 : decode cX5_takes 71 = .ok (.iconst (-1), 1) := by decide +kernel
theorem dX5_takes_72 : decode cX5_takes 72 = .ok (.if_icmp .eq 48, 3) := by decide +kernel
theorem dX5_takes_75 : decode cX5_takes 75 = .ok (.aload_n 0, 1) := by decide +kernel
theorem dX5_takes_76 : decode cX5_takes 76 = .ok (.getfield 31, 3) := by decide +kernel
theorem dX5_takes_79 : decode cX5_takes 79 = .ok (.iload_n 2, 1) := by decide +kernel
theorem dX5_takes_80 : decode cX5_takes 80 = .ok (.iconst (-1), 1) := by decide +kernel
theorem dX5_takes_81 : decode cX5_takes 81 = .ok (.iastore, 1) := by decide +kernel
theorem dX5_takes_82 : decode cX5_takes 82 = .ok (.aload_n 0, 1) := by decide +kernel
theorem dX5_takes_83 : decode cX5_takes 83 = .ok (.getfield 53, 3) := by decide +kernel
theorem dX5_takes_86 : decode cX5_takes 86 = .ok (.iload_n 1, 1) := by decide +kernel
theorem dX5_takes_87 : decode cX5_takes 87 = .ok (.iload_n 2, 1) := by decide +kernel
theorem dX5_takes_88 : decode cX5_takes 88 = .ok (.iastore, 1) := by decide +kernel
theorem dX5_takes_89 : decode cX5_takes 89 = .ok (.aload_n 0, 1) := by decide +kernel
theorem dX5_takes_90 : decode cX5_takes 90 = .ok (.getfield 56, 3) := by decide +kernel
theorem dX5_takes_93 : decode cX5_takes 93 = .ok (.iload_n 1, 1) := by decide +kernel
theorem dX5_takes_94 : decode cX5_takes 94 = .ok (.aload_n 0, 1) := by decide +kernel
theorem dX5_takes_95 : decode cX5_takes 95 = .ok (.iload_n 2, 1) := by decide +kernel
theorem dX5_takes_96 : decode cX5_takes 96 = .ok (.bipush 16, 2) := by decide +kernel
theorem dX5_takes_98 : decode cX5_takes 98 = .ok (.idiv, 1) := by decide +kernel
theorem dX5_takes_99 : decode cX5_takes 99 = .ok (.iload_n 2, 1) := by decide +kernel
theorem dX5_takes_100 : decode cX5_takes 100 = .ok (.bipush 16, 2) := by decide +kernel
theorem dX5_takes_102 : decode cX5_takes 102 = .ok (.irem, 1) := by decide +kernel
theorem dX5_takes_103 : decode cX5_takes 103 = .ok (.invokevirtual 88, 3) := by decide +kernel
theorem dX5_takes_106 : decode cX5_takes 106 = .ok (.aload_n 0, 1) := by decide +kernel
theorem dX5_takes_107 : decode cX5_takes 107 = .ok (.iload_n 2, 1) := by decide +kernel
theorem dX5_takes_108 : decode cX5_takes 108 = .ok (.bipush 16, 2) := by decide +kernel
theorem dX5_takes_110 : decode cX5_takes 110 = .ok (.idiv, 1) := by decide +kernel
theorem dX5_takes_111 : decode cX5_takes 111 = .ok (.iload_n 2, 1) := by decide +kernel
theorem dX5_takes_112 : decode cX5_takes 112 = .ok (.bipush 16, 2) := by decide +kernel
theorem dX5_takes_114 : decode cX5_takes 114 = .ok (.irem, 1) := by decide +kernel
theorem dX5_takes_115 : decode cX5_takes 115 = .ok (.invokevirtual 84, 3) := by decide +kernel
theorem dX5_takes_118 : decode cX5_takes 118 = .ok (.isub, 1) := by decide +kernel
theorem dX5_takes_119 : decode cX5_takes 119 = .ok (.iastore, 1) := by decide +kernel
theorem dX5_takes_120 : decode cX5_takes 120 = .ok (.return_, 1) := by decide +kernel
theorem dX5_place_0 : decode cX5_place 0 = .ok (.sipush 1280, 3) := by decide +kernel
theorem dX5_place_3 : decode cX5_place 3 = .ok (.iload_n 2, 1) := by decide +kernel
theorem dX5_place_4 : decode cX5_place 4 = .ok (.iconst 2, 1) := by decide +kernel
theorem dX5_place_5 : decode cX5_place 5 = .ok (.irem, 1) := by decide +kernel
theorem dX5_place_6 : decode cX5_place 6 = .ok (.imul, 1) := by decide +kernel
theorem dX5_place_7 : decode cX5_place 7 = .ok (.iload_n 1, 1) := by decide +kernel
theorem dX5_place_8 : decode cX5_place 8 = .ok (.iload_n 3, 1) := by decide +kernel
theorem dX5_place_9 : decode cX5_place 9 = .ok (.iload 4, 2) := by decide +kernel
theorem dX5_place_11 : decode cX5_place 11 = .ok (.invokestatic 97, 3) := by decide +kernel
theorem dX5_place_14 : decode cX5_place 14 = .ok (.iadd, 1) := by decide +kernel
theorem dX5_place_15 : decode cX5_place 15 = .ok (.ireturn, 1) := by decide +kernel

def wX5_thrown (a0 : Nat) (S : HS) (Q : Int32 → HS → Prop) : Prop := (ok S a0 5 ∧ Q (gI S 179 a0) S)

def wX5_fails (a0 : Nat) (x1 : Int32) (S : HS) (Q : Int32 → HS → Prop) : Prop := (ok S a0 5 ∧ (∀ S1, S1 = sI S 179 a0 x1 → ((x1 ≤ 0 → Q (0 : Int32) S1) ∧ (¬ x1 ≤ 0 → Q (1 : Int32) S1))))

def wX5_isIn (x0 : Int32) (x1 : Int32) (x2 : Int32) (S : HS) (Q : Int32 → HS → Prop) : Prop := ((x0 < x1 → Q (0 : Int32) S) ∧ (¬ x0 < x1 → ((x2 < x0 → Q (0 : Int32) S) ∧ (¬ x2 < x0 → Q (1 : Int32) S))))

def wX5_isBanner (a0 : Nat) (x1 : Int32) (S : HS) (Q : Int32 → HS → Prop) : Prop := (ok S a0 5 ∧ (wX5_isIn x1 (0 : Int32) ((gI S 161 a0) - (1 : Int32)) S (fun r1 S1 => ((r1 = 0 ∨ r1 = 1) ∧ Q r1 S1))))

def wX5_isRow (x0 : Int32) (S : HS) (Q : Int32 → HS → Prop) : Prop := (wX5_isIn x0 (0 : Int32) (7 : Int32) S (fun r1 S1 => ((r1 = 0 ∨ r1 = 1) ∧ Q r1 S1)))

def wX5_isPrinter (x0 : Int32) (S : HS) (Q : Int32 → HS → Prop) : Prop := (wX5_isIn x0 (0 : Int32) (2 : Int32) S (fun r1 S1 => ((r1 = 0 ∨ r1 = 1) ∧ Q r1 S1)))

def wX5_first (a0 : Nat) (x1 : Int32) (x2 : Int32) (S : HS) (Q : Int32 → HS → Prop) : Prop := (ok S a0 5 ∧ (∀ o1, o1 = gR S 163 a0 → (∃ q1, o1 = some q1 ∧ (ok S q1 6 ∧ vp_in x1 (gN S q1) ∧ (ok S a0 5 ∧ (∀ o2, o2 = gR S 164 a0 → (∃ q2, o2 = some q2 ∧ (ok S q2 6 ∧ vp_in x1 (gN S q2) ∧ Q (x2 * ((gA S q1 x1.toNatClampNeg) - (gA S q2 x1.toNatClampNeg))) S))))))))

def wX5_end (a0 : Nat) (x1 : Int32) (x2 : Int32) (S : HS) (Q : Int32 → HS → Prop) : Prop := (ok S a0 5 ∧ (wX5_first a0 x1 x2 S (fun r1 S1 => (ok S1 a0 5 ∧ (∀ o1, o1 = gR S1 163 a0 → (∃ q1, o1 = some q1 ∧ (ok S1 q1 6 ∧ vp_in x1 (gN S1 q1) ∧ (ok S1 a0 5 ∧ (∀ o2, o2 = gR S1 162 a0 → (∃ q2, o2 = some q2 ∧ (ok S1 q2 6 ∧ vp_in x1 (gN S1 q2) ∧ (((gA S1 q2 x1.toNatClampNeg) ≤ (r1 + (gA S1 q1 x1.toNatClampNeg)) → (ok S1 a0 5 ∧ (∀ o3, o3 = gR S1 162 a0 → (∃ q3, o3 = some q3 ∧ (ok S1 q3 6 ∧ vp_in x1 (gN S1 q3) ∧ Q (gA S1 q3 x1.toNatClampNeg) S1))))) ∧ (¬ (gA S1 q2 x1.toNatClampNeg) ≤ (r1 + (gA S1 q1 x1.toNatClampNeg)) → Q (r1 + (gA S1 q1 x1.toNatClampNeg)) S1)))))))))))))
def wX5_stripsOf_L2 (c0 : Nat) (c1 : Int32) : Nat → Int32 → HS → (Int32 → HS → Prop) → Prop
  | 0, _, _, _ => False
  | n + 1, m2, S, K => (ok S c0 5 ∧ (wX5_end c0 c1 (m2 - (1 : Int32)) S (fun r1 S1 => (ok S1 c0 5 ∧ (∀ o1, o1 = gR S1 162 c0 → (∃ q1, o1 = some q1 ∧ (ok S1 q1 6 ∧ vp_in c1 (gN S1 q1) ∧ (((gA S1 q1 c1.toNatClampNeg) ≤ r1 → K m2 S1) ∧ (¬ (gA S1 q1 c1.toNatClampNeg) ≤ r1 → wX5_stripsOf_L2 c0 c1 n (m2 + (1 : Int32)) S1 K)))))))))
def wX5_stripsOf (a0 : Nat) (x1 : Int32) (S : HS) (Q : Int32 → HS → Prop) : Prop := (∃ n1 : Nat, wX5_stripsOf_L2 a0 x1 n1 (1 : Int32) S (fun u1 S2 => Q u1 S2))

def wX5_isStrip (a0 : Nat) (x1 : Int32) (x2 : Int32) (S : HS) (Q : Int32 → HS → Prop) : Prop := (ok S a0 5 ∧ (wX5_isBanner a0 x1 S (fun r1 S1 => ((r1 = 0 → Q (0 : Int32) S1) ∧ (¬ r1 = 0 → (ok S1 a0 5 ∧ (wX5_stripsOf a0 x1 S1 (fun r2 S2 => (wX5_isIn x2 (0 : Int32) (r2 - (1 : Int32)) S2 (fun r3 S3 => ((r3 = 0 → Q (0 : Int32) S3) ∧ (¬ r3 = 0 → Q (1 : Int32) S3))))))))))))

def wX5_isDot (a0 : Nat) (x1 : Int32) (x2 : Int32) (x3 : Int32) (S : HS) (Q : Int32 → HS → Prop) : Prop := (ok S a0 5 ∧ (wX5_isBanner a0 x1 S (fun r1 S1 => ((r1 = 0 → Q (0 : Int32) S1) ∧ (¬ r1 = 0 → (wX5_isRow x2 S1 (fun r2 S2 => ((r2 = 0 → Q (0 : Int32) S2) ∧ (¬ r2 = 0 → (ok S2 a0 5 ∧ (∀ o1, o1 = gR S2 162 a0 → (∃ q1, o1 = some q1 ∧ (ok S2 q1 6 ∧ vp_in x1 (gN S2 q1) ∧ (wX5_isIn x3 (0 : Int32) ((gA S2 q1 x1.toNatClampNeg) - (1 : Int32)) S2 (fun r3 S3 => ((r3 = 0 → Q (0 : Int32) S3) ∧ (¬ r3 = 0 → Q (1 : Int32) S3)))))))))))))))))

def wX5_dot (x0 : Int32) (x1 : Int32) (x2 : Int32) (S : HS) (Q : Int32 → HS → Prop) : Prop := Q (((32 : Int32) * (((8 : Int32) * x0) + x1)) + x2) S

def wX5_has (a0 : Nat) (x1 : Int32) (x2 : Int32) (x3 : Int32) (S : HS) (Q : Int32 → HS → Prop) : Prop := (ok S a0 5 ∧ (wX5_stripsOf a0 x1 S (fun r1 S1 => (wX5_isIn x2 (0 : Int32) (r1 - (1 : Int32)) S1 (fun r2 S2 => ((r2 = 0 → Q (0 : Int32) S2) ∧ (¬ r2 = 0 → (ok S2 a0 5 ∧ (wX5_first a0 x1 x2 S2 (fun r3 S3 => (ok S3 a0 5 ∧ (wX5_end a0 x1 x2 S3 (fun r4 S4 => (wX5_isIn x3 r3 (r4 - (1 : Int32)) S4 (fun r5 S5 => ((r5 = 0 → Q (0 : Int32) S5) ∧ (¬ r5 = 0 → Q (1 : Int32) S5)))))))))))))))))

def wX5_lays (a0 : Nat) (x1 : Int32) (x2 : Int32) (x3 : Int32) (x4 : Int32) (S : HS) (Q : Int32 → HS → Prop) : Prop := (ok S a0 5 ∧ (∀ o1, o1 = gR S 167 a0 → (wX5_dot x1 x3 x4 S (fun r1 S1 => (∃ q1, o1 = some q1 ∧ (ok S1 q1 6 ∧ vp_in r1 (gN S1 q1) ∧ (ok S1 a0 5 ∧ (wX5_has a0 x1 x2 x4 S1 (fun r2 S2 => ((¬ r2 = 0 → (ok S2 a0 5 ∧ (wX5_has a0 x1 (x2 + (1 : Int32)) x4 S2 (fun r3 S3 => ((r3 = 0 → (ok S3 a0 5 ∧ (wX5_has a0 x1 (x2 - (1 : Int32)) x4 S3 (fun r4 S4 => ((r4 = 0 → Q (gA S1 q1 r1.toNatClampNeg) S4) ∧ (¬ r4 = 0 → Q ((gA S1 q1 r1.toNatClampNeg) / (2 : Int32)) S4)))))) ∧ (¬ r3 = 0 → Q (((gA S1 q1 r1.toNatClampNeg) + (1 : Int32)) / (2 : Int32)) S3)))))) ∧ (r2 = 0 → Q (0 : Int32) S2)))))))))))
def wX5_blocked_L4 (c0 : Nat) (c1 : Int32) : Nat → Int32 → Int32 → HS → (Int32 → Int32 → HS → Prop) → Prop
  | 0, _, _, _, _ => False
  | n + 1, m2, m3, S, K => (((8 : Int32) ≤ m3 → K m2 m3 S) ∧ (¬ (8 : Int32) ≤ m3 → (ok S c0 5 ∧ (∀ o1, o1 = gR S 174 c0 → (∃ q1, o1 = some q1 ∧ (ok S q1 7 ∧ vp_in (((8 : Int32) * c1) + m3) (gN S q1) ∧ (((gA S q1 (((8 : Int32) * c1) + m3).toNatClampNeg) = 0 → wX5_blocked_L4 c0 c1 n (m2 + (0 : Int32)) (m3 + (1 : Int32)) S K) ∧ (¬ (gA S q1 (((8 : Int32) * c1) + m3).toNatClampNeg) = 0 → wX5_blocked_L4 c0 c1 n (m2 + (1 : Int32)) (m3 + (1 : Int32)) S K))))))))
def wX5_blocked (a0 : Nat) (x1 : Int32) (S : HS) (Q : Int32 → HS → Prop) : Prop := (∃ n1 : Nat, wX5_blocked_L4 a0 x1 n1 (0 : Int32) (0 : Int32) S (fun u1 u2 S1 => Q u1 S1))

def wX5_wants (a0 : Nat) (x1 : Int32) (x2 : Int32) (x3 : Int32) (S : HS) (Q : HS → Prop) : Prop := (ok S a0 5 ∧ (∀ o1, o1 = gR S 173 a0 → (∃ q1, o1 = some q1 ∧ (ok S q1 6 ∧ vp_in x1 (gN S q1) ∧ (ok S a0 5 ∧ (∀ o2, o2 = gR S 178 a0 → ((((x3 * (gA S q1 x1.toNatClampNeg)) / (100 : Int32)) ≤ (15 : Int32) → (∃ q2, o2 = some q2 ∧ (ok S q2 6 ∧ vp_in x2 (gN S q2) ∧ (∀ S1, S1 = sA S q2 x2.toNatClampNeg ((x3 * (gA S q1 x1.toNatClampNeg)) / (100 : Int32)) → Q S1)))) ∧ (¬ ((x3 * (gA S q1 x1.toNatClampNeg)) / (100 : Int32)) ≤ (15 : Int32) → (∃ q3, o2 = some q3 ∧ (ok S q3 6 ∧ vp_in x2 (gN S q3) ∧ (∀ S2, S2 = sA S q3 x2.toNatClampNeg (15 : Int32) → Q S2)))))))))))

def wX5_isOff (a0 : Nat) (x1 : Int32) (x2 : Int32) (S : HS) (Q : Int32 → HS → Prop) : Prop := (wX5_isRow x2 S (fun r1 S1 => ((r1 = 0 → Q (0 : Int32) S1) ∧ (¬ r1 = 0 → (ok S1 a0 5 ∧ (∀ o1, o1 = gR S1 174 a0 → (∃ q1, o1 = some q1 ∧ (ok S1 q1 7 ∧ vp_in (((8 : Int32) * x1) + x2) (gN S1 q1) ∧ (((gA S1 q1 (((8 : Int32) * x1) + x2).toNatClampNeg) = 0 → Q (0 : Int32) S1) ∧ (¬ (gA S1 q1 (((8 : Int32) * x1) + x2).toNatClampNeg) = 0 → Q (1 : Int32) S1))))))))))
def wX5_nozzle_J74 (v0 : Nat) (v1 : Int32) (t0 : Int32) (t1 : Int32) (S : HS) (Q : Int32 → HS → Prop) : Prop := (((t1 + t0) ≤ (15 : Int32) → (ok S v0 5 ∧ (∀ o2, o2 = gR S 172 v0 → (∃ q2, o2 = some q2 ∧ (ok S q2 6 ∧ vp_in v1 (gN S q2) ∧ Q (((t1 + t0) * (gA S q2 v1.toNatClampNeg)) / (100 : Int32)) S))))) ∧ (¬ (t1 + t0) ≤ (15 : Int32) → (ok S v0 5 ∧ (∀ o3, o3 = gR S 172 v0 → (∃ q3, o3 = some q3 ∧ (ok S q3 6 ∧ vp_in v1 (gN S q3) ∧ Q (((15 : Int32) * (gA S q3 v1.toNatClampNeg)) / (100 : Int32)) S))))))
def wX5_nozzle_J46 (v0 : Nat) (v1 : Int32) (v2 : Int32) (t0 : Int32) (t1 : Int32) (S : HS) (Q : Int32 → HS → Prop) : Prop := (ok S v0 5 ∧ (wX5_isOff v0 v1 (v2 - (1 : Int32)) S (fun r3 S3 => ((r3 = 0 → wX5_nozzle_J74 v0 v1 (0 : Int32) (t1 + t0) S3 Q) ∧ (¬ r3 = 0 → (ok S3 v0 5 ∧ (∀ o4, o4 = gR S3 178 v0 → (∃ q4, o4 = some q4 ∧ (ok S3 q4 6 ∧ vp_in (v2 - (1 : Int32)) (gN S3 q4) ∧ wX5_nozzle_J74 v0 v1 ((gA S3 q4 (v2 - (1 : Int32)).toNatClampNeg) / (2 : Int32)) (t1 + t0) S3 Q)))))))))
def wX5_nozzle (a0 : Nat) (x1 : Int32) (x2 : Int32) (S : HS) (Q : Int32 → HS → Prop) : Prop := (ok S a0 5 ∧ (wX5_isOff a0 x1 x2 S (fun r1 S1 => ((r1 = 0 → (ok S1 a0 5 ∧ (∀ o1, o1 = gR S1 178 a0 → (∃ q1, o1 = some q1 ∧ (ok S1 q1 6 ∧ vp_in x2 (gN S1 q1) ∧ (ok S1 a0 5 ∧ (wX5_isOff a0 x1 (x2 + (1 : Int32)) S1 (fun r2 S2 => ((r2 = 0 → wX5_nozzle_J46 a0 x1 x2 (0 : Int32) (gA S1 q1 x2.toNatClampNeg) S2 Q) ∧ (¬ r2 = 0 → (ok S2 a0 5 ∧ (∀ o5, o5 = gR S2 178 a0 → (∃ q5, o5 = some q5 ∧ (ok S2 q5 6 ∧ vp_in (x2 + (1 : Int32)) (gN S2 q5) ∧ wX5_nozzle_J46 a0 x1 x2 (((gA S2 q5 (x2 + (1 : Int32)).toNatClampNeg) + (1 : Int32)) / (2 : Int32)) (gA S1 q1 x2.toNatClampNeg) S2 Q)))))))))))))) ∧ (¬ r1 = 0 → Q (0 : Int32) S1)))))
def wX5_isPrinting_L4 (c0 : Nat) (c1 : Int32) : Nat → Int32 → Int32 → HS → (Int32 → Int32 → HS → Prop) → Prop
  | 0, _, _, _, _ => False
  | n + 1, m2, m3, S, K => (((3 : Int32) ≤ m3 → K m2 m3 S) ∧ (¬ (3 : Int32) ≤ m3 → ((¬ m2 = 0 → wX5_isPrinting_L4 c0 c1 n (1 : Int32) (m3 + (1 : Int32)) S K) ∧ (m2 = 0 → (ok S c0 5 ∧ (∀ o1, o1 = gR S 176 c0 → (∃ q1, o1 = some q1 ∧ (ok S q1 6 ∧ vp_in m3 (gN S q1) ∧ ((¬ (gA S q1 m3.toNatClampNeg) = c1 → wX5_isPrinting_L4 c0 c1 n (0 : Int32) (m3 + (1 : Int32)) S K) ∧ ((gA S q1 m3.toNatClampNeg) = c1 → wX5_isPrinting_L4 c0 c1 n (1 : Int32) (m3 + (1 : Int32)) S K))))))))))
def wX5_isPrinting (a0 : Nat) (x1 : Int32) (S : HS) (Q : Int32 → HS → Prop) : Prop := (∃ n1 : Nat, wX5_isPrinting_L4 a0 x1 n1 (0 : Int32) (0 : Int32) S (fun u1 u2 S1 => ((u1 = 0 ∨ u1 = 1) ∧ Q u1 S1)))
def wX5_takes_L4 (c0 : Nat) (c1 : Int32) : Nat → Int32 → Int32 → HS → (Int32 → Int32 → HS → Prop) → Prop
  | 0, _, _, _, _ => False
  | n + 1, m2, m3, S, K => (((80 : Int32) ≤ m3 → K m2 m3 S) ∧ (¬ (80 : Int32) ≤ m3 → (ok S c0 5 ∧ (∀ o1, o1 = gR S 169 c0 → (∃ q1, o1 = some q1 ∧ (ok S q1 6 ∧ vp_in m3 (gN S q1) ∧ ((¬ (gA S q1 m3.toNatClampNeg) = c1 → wX5_takes_L4 c0 c1 n m2 (m3 + (1 : Int32)) S K) ∧ ((gA S q1 m3.toNatClampNeg) = c1 → ((m2 = (-1 : Int32) → wX5_takes_L4 c0 c1 n m3 (m3 + (1 : Int32)) S K) ∧ (¬ m2 = (-1 : Int32) → (ok S c0 5 ∧ (∀ o2, o2 = gR S 166 c0 → (∃ q2, o2 = some q2 ∧ (ok S q2 6 ∧ vp_in (m3 / (16 : Int32)) (gN S q2) ∧ (ok S c0 5 ∧ (∀ o3, o3 = gR S 166 c0 → (∃ q3, o3 = some q3 ∧ (ok S q3 6 ∧ vp_in (m2 / (16 : Int32)) (gN S q3) ∧ (((gA S q3 (m2 / (16 : Int32)).toNatClampNeg) ≤ (gA S q2 (m3 / (16 : Int32)).toNatClampNeg) → wX5_takes_L4 c0 c1 n m2 (m3 + (1 : Int32)) S K) ∧ (¬ (gA S q3 (m2 / (16 : Int32)).toNatClampNeg) ≤ (gA S q2 (m3 / (16 : Int32)).toNatClampNeg) → wX5_takes_L4 c0 c1 n m3 (m3 + (1 : Int32)) S K))))))))))))))))))))
def wX5_takes (a0 : Nat) (x1 : Int32) (S : HS) (Q : HS → Prop) : Prop := (∃ n1 : Nat, wX5_takes_L4 a0 x1 n1 (-1 : Int32) (0 : Int32) S (fun u1 u2 S1 => ((u1 = (-1 : Int32) → Q S1) ∧ (¬ u1 = (-1 : Int32) → (ok S1 a0 5 ∧ (∀ o4, o4 = gR S1 169 a0 → (∃ q4, o4 = some q4 ∧ (ok S1 q4 6 ∧ vp_in u1 (gN S1 q4) ∧ (∀ S2, S2 = sA S1 q4 u1.toNatClampNeg (-1 : Int32) → (ok S2 a0 5 ∧ (∀ o5, o5 = gR S2 176 a0 → (∃ q5, o5 = some q5 ∧ (ok S2 q5 6 ∧ vp_in x1 (gN S2 q5) ∧ (∀ S3, S3 = sA S2 q5 x1.toNatClampNeg u1 → (ok S3 a0 5 ∧ (∀ o6, o6 = gR S3 177 a0 → (ok S3 a0 5 ∧ (wX5_end a0 (u1 / (16 : Int32)) (u1 - u1 / (16 : Int32) * (16 : Int32)) S3 (fun r1 S4 => (ok S4 a0 5 ∧ (wX5_first a0 (u1 / (16 : Int32)) (u1 - u1 / (16 : Int32) * (16 : Int32)) S4 (fun r2 S5 => (∃ q6, o6 = some q6 ∧ (ok S5 q6 6 ∧ vp_in x1 (gN S5 q6) ∧ (∀ S6, S6 = sA S5 q6 x1.toNatClampNeg (r1 - r2) → Q S6)))))))))))))))))))))))))

def wX5_place (a0 : Nat) (x1 : Int32) (x2 : Int32) (x3 : Int32) (x4 : Int32) (S : HS) (Q : Int32 → HS → Prop) : Prop := (wX5_dot x1 x3 x4 S (fun r1 S1 => Q (((1280 : Int32) * (x2 - x2 / (2 : Int32) * (2 : Int32))) + r1) S1))
theorem kF_RX5_62 : Cond.fieldLink RX5 62 RX5 (TX5 19).2.1 (TX5 19).2.2.1 ∈ T0 := T0_mem (i := 640) (by decide +kernel) (by decide +kernel)
theorem inT_5 : ∀ w ∈ u_ws RX5 TX5 20, w ∈ T0 := inT [641, 643, 645, 647, 649, 651, 653, 655, 657, 659, 661, 663, 665, 667, 669, 671, 673, 675, 677, 679] (by decide +kernel) (by decide +kernel)
theorem kF_RX5_66 : Cond.fieldLink RX5 66 RX5 (TX5 1).2.1 (TX5 1).2.2.1 ∈ T0 := T0_mem (i := 622) (by decide +kernel) (by decide +kernel)
theorem kC_X5_isIn : Cond.code yX5_isIn cX5_isIn 3 (some .boolean) ∈ T0 := T0_mem (i := 692) (by decide +kernel) (by decide +kernel)
theorem kI_RX5 : Cond.initialized RX5 ∈ T0 := T0_mem (i := 35) (by decide +kernel) (by decide +kernel)
theorem kM_RX5_69 : Cond.methodLink RX5 69 yX5_isIn ∈ T0 := T0_mem (i := 690) (by decide +kernel) (by decide +kernel)
theorem hd_X5_isIn : yX5_isIn.cls ≠ "java/lang/invoke/MethodHandle" ∧ yX5_isIn.cls ≠ "java/lang/invoke/VarHandle" ∧ (parseMethodDescriptor yX5_isIn.desc).map (fun d => d.parameters.length) = some 3 := by decide +kernel
theorem kS_X5_isIn : Cond.static yX5_isIn ∈ T0 := T0_mem (i := 691) (by decide +kernel) (by decide +kernel)
theorem kF_RX5_13 : Cond.fieldLink RX5 13 RX5 (TX5 3).2.1 (TX5 3).2.2.1 ∈ T0 := T0_mem (i := 624) (by decide +kernel) (by decide +kernel)
theorem kF_RX5_16 : Cond.fieldLink RX5 16 RX5 (TX5 4).2.1 (TX5 4).2.2.1 ∈ T0 := T0_mem (i := 625) (by decide +kernel) (by decide +kernel)
theorem kC_X5_first : Cond.code yX5_first cX5_first 3 (some .int) ∈ T0 := T0_mem (i := 730) (by decide +kernel) (by decide +kernel)
theorem kM_RX5_84 : Cond.methodLink RX5 84 yX5_first ∈ T0 := T0_mem (i := 727) (by decide +kernel) (by decide +kernel)
theorem hd_X5_first : yX5_first.cls ≠ "java/lang/invoke/MethodHandle" ∧ yX5_first.cls ≠ "java/lang/invoke/VarHandle" ∧ (parseMethodDescriptor yX5_first.desc).map (fun d => d.parameters.length) = some 2 := by decide +kernel
theorem kO_X5_first : Cond.instanceMethod yX5_first ∈ T0 := T0_mem (i := 729) (by decide +kernel) (by decide +kernel)
theorem kV_X5_first : Cond.selects RX5 yX5_first yX5_first ∈ T0 := T0_mem (i := 16) (by decide +kernel) (by decide +kernel)
theorem kF_RX5_7 : Cond.fieldLink RX5 7 RX5 (TX5 2).2.1 (TX5 2).2.2.1 ∈ T0 := T0_mem (i := 623) (by decide +kernel) (by decide +kernel)
theorem kC_X5_end : Cond.code yX5_end cX5_end 4 (some .int) ∈ T0 := T0_mem (i := 726) (by decide +kernel) (by decide +kernel)
theorem kM_RX5_88 : Cond.methodLink RX5 88 yX5_end ∈ T0 := T0_mem (i := 723) (by decide +kernel) (by decide +kernel)
theorem hd_X5_end : yX5_end.cls ≠ "java/lang/invoke/MethodHandle" ∧ yX5_end.cls ≠ "java/lang/invoke/VarHandle" ∧ (parseMethodDescriptor yX5_end.desc).map (fun d => d.parameters.length) = some 2 := by decide +kernel
theorem kO_X5_end : Cond.instanceMethod yX5_end ∈ T0 := T0_mem (i := 725) (by decide +kernel) (by decide +kernel)
theorem kV_X5_end : Cond.selects RX5 yX5_end yX5_end ∈ T0 := T0_mem (i := 15) (by decide +kernel) (by decide +kernel)
theorem kC_X5_isBanner : Cond.code yX5_isBanner cX5_isBanner 2 (some .boolean) ∈ T0 := T0_mem (i := 708) (by decide +kernel) (by decide +kernel)
theorem kM_RX5_73 : Cond.methodLink RX5 73 yX5_isBanner ∈ T0 := T0_mem (i := 705) (by decide +kernel) (by decide +kernel)
theorem hd_X5_isBanner : yX5_isBanner.cls ≠ "java/lang/invoke/MethodHandle" ∧ yX5_isBanner.cls ≠ "java/lang/invoke/VarHandle" ∧ (parseMethodDescriptor yX5_isBanner.desc).map (fun d => d.parameters.length) = some 1 := by decide +kernel
theorem kO_X5_isBanner : Cond.instanceMethod yX5_isBanner ∈ T0 := T0_mem (i := 707) (by decide +kernel) (by decide +kernel)
theorem kV_X5_isBanner : Cond.selects RX5 yX5_isBanner yX5_isBanner ∈ T0 := T0_mem (i := 13) (by decide +kernel) (by decide +kernel)
theorem kC_X5_stripsOf : Cond.code yX5_stripsOf cX5_stripsOf 3 (some .int) ∈ T0 := T0_mem (i := 722) (by decide +kernel) (by decide +kernel)
theorem kM_RX5_77 : Cond.methodLink RX5 77 yX5_stripsOf ∈ T0 := T0_mem (i := 719) (by decide +kernel) (by decide +kernel)
theorem hd_X5_stripsOf : yX5_stripsOf.cls ≠ "java/lang/invoke/MethodHandle" ∧ yX5_stripsOf.cls ≠ "java/lang/invoke/VarHandle" ∧ (parseMethodDescriptor yX5_stripsOf.desc).map (fun d => d.parameters.length) = some 1 := by decide +kernel
theorem kO_X5_stripsOf : Cond.instanceMethod yX5_stripsOf ∈ T0 := T0_mem (i := 721) (by decide +kernel) (by decide +kernel)
theorem kV_X5_stripsOf : Cond.selects RX5 yX5_stripsOf yX5_stripsOf ∈ T0 := T0_mem (i := 14) (by decide +kernel) (by decide +kernel)
theorem kC_X5_isRow : Cond.code yX5_isRow cX5_isRow 1 (some .boolean) ∈ T0 := T0_mem (i := 711) (by decide +kernel) (by decide +kernel)
theorem kM_RX5_81 : Cond.methodLink RX5 81 yX5_isRow ∈ T0 := T0_mem (i := 709) (by decide +kernel) (by decide +kernel)
theorem hd_X5_isRow : yX5_isRow.cls ≠ "java/lang/invoke/MethodHandle" ∧ yX5_isRow.cls ≠ "java/lang/invoke/VarHandle" ∧ (parseMethodDescriptor yX5_isRow.desc).map (fun d => d.parameters.length) = some 1 := by decide +kernel
theorem kS_X5_isRow : Cond.static yX5_isRow ∈ T0 := T0_mem (i := 710) (by decide +kernel) (by decide +kernel)
theorem kF_RX5_25 : Cond.fieldLink RX5 25 RX5 (TX5 7).2.1 (TX5 7).2.2.1 ∈ T0 := T0_mem (i := 628) (by decide +kernel) (by decide +kernel)
theorem kC_X5_dot : Cond.code yX5_dot cX5_dot 3 (some .int) ∈ T0 := T0_mem (i := 714) (by decide +kernel) (by decide +kernel)
theorem kM_RX5_97 : Cond.methodLink RX5 97 yX5_dot ∈ T0 := T0_mem (i := 712) (by decide +kernel) (by decide +kernel)
theorem hd_X5_dot : yX5_dot.cls ≠ "java/lang/invoke/MethodHandle" ∧ yX5_dot.cls ≠ "java/lang/invoke/VarHandle" ∧ (parseMethodDescriptor yX5_dot.desc).map (fun d => d.parameters.length) = some 3 := by decide +kernel
theorem kS_X5_dot : Cond.static yX5_dot ∈ T0 := T0_mem (i := 713) (by decide +kernel) (by decide +kernel)
theorem kC_X5_has : Cond.code yX5_has cX5_has 4 (some .boolean) ∈ T0 := T0_mem (i := 746) (by decide +kernel) (by decide +kernel)
theorem kM_RX5_101 : Cond.methodLink RX5 101 yX5_has ∈ T0 := T0_mem (i := 743) (by decide +kernel) (by decide +kernel)
theorem hd_X5_has : yX5_has.cls ≠ "java/lang/invoke/MethodHandle" ∧ yX5_has.cls ≠ "java/lang/invoke/VarHandle" ∧ (parseMethodDescriptor yX5_has.desc).map (fun d => d.parameters.length) = some 3 := by decide +kernel
theorem kO_X5_has : Cond.instanceMethod yX5_has ∈ T0 := T0_mem (i := 745) (by decide +kernel) (by decide +kernel)
theorem kV_X5_has : Cond.selects RX5 yX5_has yX5_has ∈ T0 := T0_mem (i := 19) (by decide +kernel) (by decide +kernel)
theorem kF_RX5_46 : Cond.fieldLink RX5 46 RX5 (TX5 14).2.1 (TX5 14).2.2.1 ∈ T0 := T0_mem (i := 635) (by decide +kernel) (by decide +kernel)
theorem kF_RX5_43 : Cond.fieldLink RX5 43 RX5 (TX5 13).2.1 (TX5 13).2.2.1 ∈ T0 := T0_mem (i := 634) (by decide +kernel) (by decide +kernel)
theorem kF_RX5_59 : Cond.fieldLink RX5 59 RX5 (TX5 18).2.1 (TX5 18).2.2.1 ∈ T0 := T0_mem (i := 639) (by decide +kernel) (by decide +kernel)
theorem kC_X5_isOff : Cond.code yX5_isOff cX5_isOff 3 (some .boolean) ∈ T0 := T0_mem (i := 785) (by decide +kernel) (by decide +kernel)
theorem kM_RX5_118 : Cond.methodLink RX5 118 yX5_isOff ∈ T0 := T0_mem (i := 782) (by decide +kernel) (by decide +kernel)
theorem hd_X5_isOff : yX5_isOff.cls ≠ "java/lang/invoke/MethodHandle" ∧ yX5_isOff.cls ≠ "java/lang/invoke/VarHandle" ∧ (parseMethodDescriptor yX5_isOff.desc).map (fun d => d.parameters.length) = some 2 := by decide +kernel
theorem kO_X5_isOff : Cond.instanceMethod yX5_isOff ∈ T0 := T0_mem (i := 784) (by decide +kernel) (by decide +kernel)
theorem kV_X5_isOff : Cond.selects RX5 yX5_isOff yX5_isOff ∈ T0 := T0_mem (i := 23) (by decide +kernel) (by decide +kernel)
theorem kF_RX5_40 : Cond.fieldLink RX5 40 RX5 (TX5 12).2.1 (TX5 12).2.2.1 ∈ T0 := T0_mem (i := 633) (by decide +kernel) (by decide +kernel)
theorem kF_RX5_53 : Cond.fieldLink RX5 53 RX5 (TX5 16).2.1 (TX5 16).2.2.1 ∈ T0 := T0_mem (i := 637) (by decide +kernel) (by decide +kernel)
theorem kF_RX5_31 : Cond.fieldLink RX5 31 RX5 (TX5 9).2.1 (TX5 9).2.2.1 ∈ T0 := T0_mem (i := 630) (by decide +kernel) (by decide +kernel)
theorem kF_RX5_22 : Cond.fieldLink RX5 22 RX5 (TX5 6).2.1 (TX5 6).2.2.1 ∈ T0 := T0_mem (i := 627) (by decide +kernel) (by decide +kernel)
theorem kF_RX5_56 : Cond.fieldLink RX5 56 RX5 (TX5 17).2.1 (TX5 17).2.2.1 ∈ T0 := T0_mem (i := 638) (by decide +kernel) (by decide +kernel)
set_option maxHeartbeats 4000000 in
set_option maxRecDepth 100000 in
theorem met_X5_thrown (l : Launch) (a0 : Nat) : MI l yX5_thrown cX5_thrown 1 (some .int) 0 0 0 0 [.ref a0] (wX5_thrown a0) := by
  refine MI.of (by decide) (Nat.le_of_ble_eq_true rfl) ?_
  intro p e s m below meth c D cs lo S Q ls B hr hlk hin
  intro h hl hw
  replace hl : lv_has ls 1 [(0, .ref a0)] := hl
  refine lv_aload_n B.1.1 B.1.2.1 dX5_thrown_0 rfl (lv_at hl 0 rfl) ?_
  obtain ⟨hok, hw⟩ := hw
  refine q_getI B h (ci := 5) (j := 19) (code := 179) rfl inT_5 (by decide) kF_RX5_62 rfl rfl rfl (by decide) dX5_thrown_1 hok.1 hok.2 ?_
  exact q_iret B hr hlk h hw dX5_thrown_4 (Nat.le_of_ble_eq_true rfl) (Nat.le_of_ble_eq_true rfl)
set_option maxHeartbeats 4000000 in
set_option maxRecDepth 100000 in
theorem met_X5_fails (l : Launch) (a0 : Nat) (x1 : Int32) : MI l yX5_fails cX5_fails 2 (some .boolean) 0 0 0 0 [.ref a0, .int x1] (wX5_fails a0 x1) := by
  refine MI.of (by decide) (Nat.le_of_ble_eq_true rfl) ?_
  intro p e s m below meth c D cs lo S Q ls B hr hlk hin
  intro h hl hw
  replace hl : lv_has ls 2 [(0, .ref a0), (1, .int x1)] := hl
  refine lv_aload_n B.1.1 B.1.2.1 dX5_fails_0 rfl (lv_at hl 0 rfl) ?_
  refine lv_iload_n B.1.1 B.1.2.1 dX5_fails_1 rfl (lv_at hl 1 rfl) ?_
  obtain ⟨hok, hw⟩ := hw
  refine q_putI B h (ci := 5) (j := 19) (code := 179) (v := x1) rfl inT_5 tyX5 tyX5_ok nmX5 (by decide) kF_RX5_62 rfl rfl rfl rfl (by decide) (by first | rfl | decide) (by first | rfl | decide) dX5_fails_2 hok.1 hok.2 (fun H locs h9 => ?_)
  obtain ⟨S1, hS1, hh⟩ : ∃ z, z = sI S 179 a0 x1 ∧ Hx D cs lo s z H _ := ⟨_, rfl, h9⟩
  clear h9
  replace h := hh
  clear hh
  replace hw := hw S1 hS1
  refine lv_iload_n B.1.1 B.1.2.1 dX5_fails_5 rfl (lv_at hl 1 rfl) ?_
  refine lv_if_le (tgt := 13) B.1.1 B.1.2.1 dX5_fails_6 (by decide) (fun hc => ?_) (fun hc => ?_)
  · replace hw := hw.1 hc
    refine lv_iconst (v := (0 : Int32)) B.1.1 B.1.2.1 dX5_fails_13 (by decide) ?_
    exact q_zret B hr hlk h (by decide) hw dX5_fails_14 (Nat.le_of_ble_eq_true rfl) (Nat.le_of_ble_eq_true rfl)
  · replace hw := hw.2 hc
    refine lv_iconst (v := (1 : Int32)) B.1.1 B.1.2.1 dX5_fails_9 (by decide) ?_
    refine lv_goto (tgt := 14) B.1.1 B.1.2.1 dX5_fails_10 (by decide) ?_
    exact q_zret B hr hlk h (by decide) hw dX5_fails_14 (Nat.le_of_ble_eq_true rfl) (Nat.le_of_ble_eq_true rfl)
set_option maxHeartbeats 4000000 in
set_option maxRecDepth 100000 in
theorem met_X5_isIn (l : Launch) (x0 : Int32) (x1 : Int32) (x2 : Int32) : MI l yX5_isIn cX5_isIn 3 (some .boolean) 0 0 0 0 [.int x0, .int x1, .int x2] (wX5_isIn x0 x1 x2) := by
  refine MI.of (by decide) (Nat.le_of_ble_eq_true rfl) ?_
  intro p e s m below meth c D cs lo S Q ls B hr hlk hin
  intro h hl hw
  replace hl : lv_has ls 3 [(0, .int x0), (1, .int x1), (2, .int x2)] := hl
  refine lv_iload_n B.1.1 B.1.2.1 dX5_isIn_0 rfl (lv_at hl 0 rfl) ?_
  refine lv_iload_n B.1.1 B.1.2.1 dX5_isIn_1 rfl (lv_at hl 1 rfl) ?_
  refine lv_icmp_lt (tgt := 14) B.1.1 B.1.2.1 dX5_isIn_2 (by decide) (fun hc => ?_) (fun hc => ?_)
  · replace hw := hw.1 hc
    refine lv_iconst (v := (0 : Int32)) B.1.1 B.1.2.1 dX5_isIn_14 (by decide) ?_
    exact q_zret B hr hlk h (by decide) hw dX5_isIn_15 (Nat.le_of_ble_eq_true rfl) (Nat.le_of_ble_eq_true rfl)
  · replace hw := hw.2 hc
    refine lv_iload_n B.1.1 B.1.2.1 dX5_isIn_5 rfl (lv_at hl 0 rfl) ?_
    refine lv_iload_n B.1.1 B.1.2.1 dX5_isIn_6 rfl (lv_at hl 2 rfl) ?_
    refine lv_icmp_gt (tgt := 14) B.1.1 B.1.2.1 dX5_isIn_7 (by decide) (fun hc => ?_) (fun hc => ?_)
    · replace hw := hw.1 hc
      refine lv_iconst (v := (0 : Int32)) B.1.1 B.1.2.1 dX5_isIn_14 (by decide) ?_
      exact q_zret B hr hlk h (by decide) hw dX5_isIn_15 (Nat.le_of_ble_eq_true rfl) (Nat.le_of_ble_eq_true rfl)
    · replace hw := hw.2 hc
      refine lv_iconst (v := (1 : Int32)) B.1.1 B.1.2.1 dX5_isIn_10 (by decide) ?_
      refine lv_goto (tgt := 15) B.1.1 B.1.2.1 dX5_isIn_11 (by decide) ?_
      exact q_zret B hr hlk h (by decide) hw dX5_isIn_15 (Nat.le_of_ble_eq_true rfl) (Nat.le_of_ble_eq_true rfl)
set_option maxHeartbeats 4000000 in
set_option maxRecDepth 100000 in
theorem met_X5_isBanner (l : Launch) (a0 : Nat) (x1 : Int32) : MI l yX5_isBanner cX5_isBanner 2 (some .boolean) 1 22 0 0 [.ref a0, .int x1] (wX5_isBanner a0 x1) := by
  refine MI.of (by decide) (Nat.le_of_ble_eq_true rfl) ?_
  intro p e s m below meth c D cs lo S Q ls B hr hlk hin
  intro h hl hw
  replace hl : lv_has ls 2 [(0, .ref a0), (1, .int x1)] := hl
  refine lv_iload_n B.1.1 B.1.2.1 dX5_isBanner_0 rfl (lv_at hl 1 rfl) ?_
  refine lv_iconst (v := (0 : Int32)) B.1.1 B.1.2.1 dX5_isBanner_1 (by decide) ?_
  refine lv_aload_n B.1.1 B.1.2.1 dX5_isBanner_2 rfl (lv_at hl 0 rfl) ?_
  obtain ⟨hok, hw⟩ := hw
  refine q_getI B h (ci := 5) (j := 1) (code := 161) rfl inT_5 (by decide) kF_RX5_66 rfl rfl rfl (by decide) dX5_isBanner_3 hok.1 hok.2 ?_
  refine lv_iconst (v := (1 : Int32)) B.1.1 B.1.2.1 dX5_isBanner_6 (by decide) ?_
  refine lv_isub B.1.1 B.1.2.1 dX5_isBanner_7 ?_
  refine q_callIS B h (met_X5_isIn l x1 (0 : Int32) ((gI S 161 a0) - (1 : Int32))) (CB B 3 kC_X5_isIn kI_RX5 kM_RX5_69 hd_X5_isIn ⟨Nat.le_of_ble_eq_true rfl, Nat.le_of_ble_eq_true rfl⟩) kS_X5_isIn (rest := []) rfl rfl hl.1 (Nat.le_of_ble_eq_true rfl) dX5_isBanner_8 ⟨Nat.le_of_ble_eq_true rfl, Nat.le_of_ble_eq_true rfl⟩ hw (fun r1 S1 H locs hw9 h9 => ?_)
  replace hw := hw9
  clear hw9
  replace h := h9
  clear h9
  exact q_zret B hr hlk h hw.1 hw.2 dX5_isBanner_11 (Nat.le_of_ble_eq_true rfl) (Nat.le_of_ble_eq_true rfl)
set_option maxHeartbeats 4000000 in
set_option maxRecDepth 100000 in
theorem met_X5_isRow (l : Launch) (x0 : Int32) : MI l yX5_isRow cX5_isRow 1 (some .boolean) 1 22 0 0 [.int x0] (wX5_isRow x0) := by
  refine MI.of (by decide) (Nat.le_of_ble_eq_true rfl) ?_
  intro p e s m below meth c D cs lo S Q ls B hr hlk hin
  intro h hl hw
  replace hl : lv_has ls 1 [(0, .int x0)] := hl
  refine lv_iload_n B.1.1 B.1.2.1 dX5_isRow_0 rfl (lv_at hl 0 rfl) ?_
  refine lv_iconst (v := (0 : Int32)) B.1.1 B.1.2.1 dX5_isRow_1 (by decide) ?_
  refine lv_bipush (v := (7 : Int32)) B.1.1 B.1.2.1 dX5_isRow_2 (by decide) ?_
  refine q_callIS B h (met_X5_isIn l x0 (0 : Int32) (7 : Int32)) (CB B 3 kC_X5_isIn kI_RX5 kM_RX5_69 hd_X5_isIn ⟨Nat.le_of_ble_eq_true rfl, Nat.le_of_ble_eq_true rfl⟩) kS_X5_isIn (rest := []) rfl rfl hl.1 (Nat.le_of_ble_eq_true rfl) dX5_isRow_4 ⟨Nat.le_of_ble_eq_true rfl, Nat.le_of_ble_eq_true rfl⟩ hw (fun r1 S1 H locs hw9 h9 => ?_)
  replace hw := hw9
  clear hw9
  replace h := h9
  clear h9
  exact q_zret B hr hlk h hw.1 hw.2 dX5_isRow_7 (Nat.le_of_ble_eq_true rfl) (Nat.le_of_ble_eq_true rfl)
set_option maxHeartbeats 4000000 in
set_option maxRecDepth 100000 in
theorem met_X5_isPrinter (l : Launch) (x0 : Int32) : MI l yX5_isPrinter cX5_isPrinter 1 (some .boolean) 1 22 0 0 [.int x0] (wX5_isPrinter x0) := by
  refine MI.of (by decide) (Nat.le_of_ble_eq_true rfl) ?_
  intro p e s m below meth c D cs lo S Q ls B hr hlk hin
  intro h hl hw
  replace hl : lv_has ls 1 [(0, .int x0)] := hl
  refine lv_iload_n B.1.1 B.1.2.1 dX5_isPrinter_0 rfl (lv_at hl 0 rfl) ?_
  refine lv_iconst (v := (0 : Int32)) B.1.1 B.1.2.1 dX5_isPrinter_1 (by decide) ?_
  refine lv_iconst (v := (2 : Int32)) B.1.1 B.1.2.1 dX5_isPrinter_2 (by decide) ?_
  refine q_callIS B h (met_X5_isIn l x0 (0 : Int32) (2 : Int32)) (CB B 3 kC_X5_isIn kI_RX5 kM_RX5_69 hd_X5_isIn ⟨Nat.le_of_ble_eq_true rfl, Nat.le_of_ble_eq_true rfl⟩) kS_X5_isIn (rest := []) rfl rfl hl.1 (Nat.le_of_ble_eq_true rfl) dX5_isPrinter_3 ⟨Nat.le_of_ble_eq_true rfl, Nat.le_of_ble_eq_true rfl⟩ hw (fun r1 S1 H locs hw9 h9 => ?_)
  replace hw := hw9
  clear hw9
  replace h := h9
  clear h9
  exact q_zret B hr hlk h hw.1 hw.2 dX5_isPrinter_6 (Nat.le_of_ble_eq_true rfl) (Nat.le_of_ble_eq_true rfl)
set_option maxHeartbeats 4000000 in
set_option maxRecDepth 100000 in
theorem met_X5_first (l : Launch) (a0 : Nat) (x1 : Int32) (x2 : Int32) : MI l yX5_first cX5_first 3 (some .int) 0 0 0 0 [.ref a0, .int x1, .int x2] (wX5_first a0 x1 x2) := by
  refine MI.of (by decide) (Nat.le_of_ble_eq_true rfl) ?_
  intro p e s m below meth c D cs lo S Q ls B hr hlk hin
  intro h hl hw
  replace hl : lv_has ls 3 [(0, .ref a0), (1, .int x1), (2, .int x2)] := hl
  refine lv_iload_n B.1.1 B.1.2.1 dX5_first_0 rfl (lv_at hl 2 rfl) ?_
  refine lv_aload_n B.1.1 B.1.2.1 dX5_first_1 rfl (lv_at hl 0 rfl) ?_
  obtain ⟨hok, hw⟩ := hw
  refine q_getR B h (ci := 5) (j := 3) (code := 163) rfl inT_5 (by decide) kF_RX5_13 rfl rfl rfl (by decide) dX5_first_2 hok.1 hok.2 ?_
  obtain ⟨o1, hoo1⟩ : ∃ z, z = gR S 163 a0 := ⟨_, rfl⟩
  rw [← hoo1]
  replace hw := hw o1 hoo1
  refine lv_iload_n B.1.1 B.1.2.1 dX5_first_5 rfl (lv_at hl 1 rfl) ?_
  obtain ⟨q1, hn, hw⟩ := hw
  subst hn
  replace hl : lv_has ls 3 [(0, .ref a0), (1, .int x1), (2, .int x2)] := hl
  obtain ⟨hok, hin9, hw⟩ := hw
  refine q_iald B h dX5_first_6 hok.1 hok.2 hin9 ?_
  refine lv_aload_n B.1.1 B.1.2.1 dX5_first_7 rfl (lv_at hl 0 rfl) ?_
  obtain ⟨hok, hw⟩ := hw
  refine q_getR B h (ci := 5) (j := 4) (code := 164) rfl inT_5 (by decide) kF_RX5_16 rfl rfl rfl (by decide) dX5_first_8 hok.1 hok.2 ?_
  obtain ⟨o2, hoo2⟩ : ∃ z, z = gR S 164 a0 := ⟨_, rfl⟩
  rw [← hoo2]
  replace hw := hw o2 hoo2
  refine lv_iload_n B.1.1 B.1.2.1 dX5_first_11 rfl (lv_at hl 1 rfl) ?_
  obtain ⟨q2, hn, hw⟩ := hw
  subst hn
  replace hl : lv_has ls 3 [(0, .ref a0), (1, .int x1), (2, .int x2)] := hl
  obtain ⟨hok, hin9, hw⟩ := hw
  refine q_iald B h dX5_first_12 hok.1 hok.2 hin9 ?_
  refine lv_isub B.1.1 B.1.2.1 dX5_first_13 ?_
  refine lv_imul B.1.1 B.1.2.1 dX5_first_14 ?_
  exact q_iret B hr hlk h hw dX5_first_15 (Nat.le_of_ble_eq_true rfl) (Nat.le_of_ble_eq_true rfl)
set_option maxHeartbeats 4000000 in
set_option maxRecDepth 100000 in
theorem met_X5_end (l : Launch) (a0 : Nat) (x1 : Int32) (x2 : Int32) : MI l yX5_end cX5_end 4 (some .int) 1 22 0 0 [.ref a0, .int x1, .int x2] (wX5_end a0 x1 x2) := by
  refine MI.of (by decide) (Nat.le_of_ble_eq_true rfl) ?_
  intro p e s m below meth c D cs lo S Q ls B hr hlk hin
  intro h hl hw
  replace hl : lv_has ls 4 [(0, .ref a0), (1, .int x1), (2, .int x2)] := hl
  refine lv_aload_n B.1.1 B.1.2.1 dX5_end_0 rfl (lv_at hl 0 rfl) ?_
  refine lv_iload_n B.1.1 B.1.2.1 dX5_end_1 rfl (lv_at hl 1 rfl) ?_
  refine lv_iload_n B.1.1 B.1.2.1 dX5_end_2 rfl (lv_at hl 2 rfl) ?_
  obtain ⟨hok, hw⟩ := hw
  refine q_callIV B h (met_X5_first l a0 x1 x2) (CB B 2 kC_X5_first kI_RX5 kM_RX5_84 hd_X5_first ⟨Nat.le_of_ble_eq_true rfl, Nat.le_of_ble_eq_true rfl⟩) kO_X5_first kV_X5_first (ci := 5) rfl (by decide) hok.1 hok.2 (rest := []) rfl rfl hl.1 (Nat.le_of_ble_eq_true rfl) dX5_end_3 ⟨Nat.le_of_ble_eq_true rfl, Nat.le_of_ble_eq_true rfl⟩ hw (fun r1 S1 H locs hw9 h9 => ?_)
  replace hw := hw9
  clear hw9
  replace h := h9
  clear h9
  refine lv_aload_n B.1.1 B.1.2.1 dX5_end_6 rfl (lv_at hl 0 rfl) ?_
  obtain ⟨hok, hw⟩ := hw
  refine q_getR B h (ci := 5) (j := 3) (code := 163) rfl inT_5 (by decide) kF_RX5_13 rfl rfl rfl (by decide) dX5_end_7 hok.1 hok.2 ?_
  obtain ⟨o1, hoo1⟩ : ∃ z, z = gR S1 163 a0 := ⟨_, rfl⟩
  rw [← hoo1]
  replace hw := hw o1 hoo1
  refine lv_iload_n B.1.1 B.1.2.1 dX5_end_10 rfl (lv_at hl 1 rfl) ?_
  obtain ⟨q1, hn, hw⟩ := hw
  subst hn
  replace hl : lv_has ls 4 [(0, .ref a0), (1, .int x1), (2, .int x2)] := hl
  obtain ⟨hok, hin9, hw⟩ := hw
  refine q_iald B h dX5_end_11 hok.1 hok.2 hin9 ?_
  refine lv_iadd B.1.1 B.1.2.1 dX5_end_12 ?_
  refine lv_istore_n (i := 3) (lv' := [(3, .int (r1 + (gA S1 q1 x1.toNatClampNeg))), (0, .ref a0), (1, .int x1), (2, .int x2)]) B.1.1 B.1.2.1 dX5_end_13 rfl hl (by decide) rfl (fun ls hl9 => ?_)
  replace hl := hl9
  clear hl9
  refine lv_iload_n B.1.1 B.1.2.1 dX5_end_14 rfl (lv_at hl 0 rfl) ?_
  refine lv_aload_n B.1.1 B.1.2.1 dX5_end_15 rfl (lv_at hl 1 rfl) ?_
  obtain ⟨hok, hw⟩ := hw
  refine q_getR B h (ci := 5) (j := 2) (code := 162) rfl inT_5 (by decide) kF_RX5_7 rfl rfl rfl (by decide) dX5_end_16 hok.1 hok.2 ?_
  obtain ⟨o2, hoo2⟩ : ∃ z, z = gR S1 162 a0 := ⟨_, rfl⟩
  rw [← hoo2]
  replace hw := hw o2 hoo2
  refine lv_iload_n B.1.1 B.1.2.1 dX5_end_19 rfl (lv_at hl 2 rfl) ?_
  obtain ⟨q2, hn, hw⟩ := hw
  subst hn
  replace hl : lv_has ls 4 [(3, .int (r1 + (gA S1 q1 x1.toNatClampNeg))), (0, .ref a0), (1, .int x1), (2, .int x2)] := hl
  obtain ⟨hok, hin9, hw⟩ := hw
  refine q_iald B h dX5_end_20 hok.1 hok.2 hin9 ?_
  refine lv_icmp_ge (tgt := 28) B.1.1 B.1.2.1 dX5_end_21 (by decide) (fun hc => ?_) (fun hc => ?_)
  · replace hw := hw.1 hc
    refine lv_aload_n B.1.1 B.1.2.1 dX5_end_28 rfl (lv_at hl 1 rfl) ?_
    obtain ⟨hok, hw⟩ := hw
    refine q_getR B h (ci := 5) (j := 2) (code := 162) rfl inT_5 (by decide) kF_RX5_7 rfl rfl rfl (by decide) dX5_end_29 hok.1 hok.2 ?_
    obtain ⟨o3, hoo3⟩ : ∃ z, z = gR S1 162 a0 := ⟨_, rfl⟩
    rw [← hoo3]
    replace hw := hw o3 hoo3
    refine lv_iload_n B.1.1 B.1.2.1 dX5_end_32 rfl (lv_at hl 2 rfl) ?_
    obtain ⟨q3, hn, hw⟩ := hw
    subst hn
    replace hl : lv_has ls 4 [(3, .int (r1 + (gA S1 q1 x1.toNatClampNeg))), (0, .ref a0), (1, .int x1), (2, .int x2)] := hl
    obtain ⟨hok, hin9, hw⟩ := hw
    refine q_iald B h dX5_end_33 hok.1 hok.2 hin9 ?_
    exact q_iret B hr hlk h hw dX5_end_34 (Nat.le_of_ble_eq_true rfl) (Nat.le_of_ble_eq_true rfl)
  · replace hw := hw.2 hc
    refine lv_iload_n B.1.1 B.1.2.1 dX5_end_24 rfl (lv_at hl 0 rfl) ?_
    refine lv_goto (tgt := 34) B.1.1 B.1.2.1 dX5_end_25 (by decide) ?_
    exact q_iret B hr hlk h hw dX5_end_34 (Nat.le_of_ble_eq_true rfl) (Nat.le_of_ble_eq_true rfl)
set_option maxHeartbeats 4000000 in
set_option maxRecDepth 100000 in
theorem met_X5_stripsOf (l : Launch) (a0 : Nat) (x1 : Int32) : MI l yX5_stripsOf cX5_stripsOf 3 (some .int) 2 45 0 0 [.ref a0, .int x1] (wX5_stripsOf a0 x1) := by
  refine MI.of (by decide) (Nat.le_of_ble_eq_true rfl) ?_
  intro p e s m below meth c D cs lo S Q ls B hr hlk hin
  have L2 : ∀ (c0 : Nat) (c1 : Int32) (K : Int32 → HS → Prop) (n : Nat) (m2 : Int32) (S : HS) (H : Heap) (locs : List Loc) (ls : Array Slot), Hx D cs lo s S H locs → lv_has ls 3 [(0, .ref c0), (1, .int c1), (2, .int m2)] → wX5_stripsOf_L2 c0 c1 n m2 S K → (∀ (m2 : Int32) (S : HS) (H : Heap) (locs : List Loc) (ls : Array Slot), Hx D cs lo s S H locs → lv_has ls 3 [(0, .ref c0), (1, .int c1), (2, .int m2)] → K m2 S → W p l e ({ frames := 2, cells := 0, slots := 0, locals := 45 } : Room) s m [.ref a0, .int x1].toArray below meth c H locs 0 0 (MQ below (va_Qi Q (fun S' t => hp D cs lo S' t.heap) (fun q => lo ≤ q)) [.ref a0, .int x1].toArray s 0 0 (fun q => lo ≤ q)) (F0 m 25 ls [])) → W p l e ({ frames := 2, cells := 0, slots := 0, locals := 45 } : Room) s m [.ref a0, .int x1].toArray below meth c H locs 0 0 (MQ below (va_Qi Q (fun S' t => hp D cs lo S' t.heap) (fun q => lo ≤ q)) [.ref a0, .int x1].toArray s 0 0 (fun q => lo ≤ q)) (F0 m 2 ls []) := by
    intro c0 c1 K n
    induction n with
    | zero => intro m2 S H locs ls h hl hw hk; exact False.elim hw
    | succ n ih =>
      intro m2 S H locs ls h hl hw hk
      refine lv_aload_n B.1.1 B.1.2.1 dX5_stripsOf_2 rfl (lv_at hl 0 rfl) ?_
      refine lv_iload_n B.1.1 B.1.2.1 dX5_stripsOf_3 rfl (lv_at hl 1 rfl) ?_
      refine lv_iload_n B.1.1 B.1.2.1 dX5_stripsOf_4 rfl (lv_at hl 2 rfl) ?_
      refine lv_iconst (v := (1 : Int32)) B.1.1 B.1.2.1 dX5_stripsOf_5 (by decide) ?_
      refine lv_isub B.1.1 B.1.2.1 dX5_stripsOf_6 ?_
      obtain ⟨hok, hw⟩ := hw
      refine q_callIV B h (met_X5_end l c0 c1 (m2 - (1 : Int32))) (CB B 2 kC_X5_end kI_RX5 kM_RX5_88 hd_X5_end ⟨Nat.le_of_ble_eq_true rfl, Nat.le_of_ble_eq_true rfl⟩) kO_X5_end kV_X5_end (ci := 5) rfl (by decide) hok.1 hok.2 (rest := []) rfl rfl hl.1 (Nat.le_of_ble_eq_true rfl) dX5_stripsOf_7 ⟨Nat.le_of_ble_eq_true rfl, Nat.le_of_ble_eq_true rfl⟩ hw (fun r1 S1 H locs hw9 h9 => ?_)
      replace hw := hw9
      clear hw9
      replace h := h9
      clear h9
      refine lv_aload_n B.1.1 B.1.2.1 dX5_stripsOf_10 rfl (lv_at hl 0 rfl) ?_
      obtain ⟨hok, hw⟩ := hw
      refine q_getR B h (ci := 5) (j := 2) (code := 162) rfl inT_5 (by decide) kF_RX5_7 rfl rfl rfl (by decide) dX5_stripsOf_11 hok.1 hok.2 ?_
      obtain ⟨o1, hoo1⟩ : ∃ z, z = gR S1 162 c0 := ⟨_, rfl⟩
      rw [← hoo1]
      replace hw := hw o1 hoo1
      refine lv_iload_n B.1.1 B.1.2.1 dX5_stripsOf_14 rfl (lv_at hl 1 rfl) ?_
      obtain ⟨q1, hn, hw⟩ := hw
      subst hn
      replace hl : lv_has ls 3 [(0, .ref c0), (1, .int c1), (2, .int m2)] := hl
      obtain ⟨hok, hin9, hw⟩ := hw
      refine q_iald B h dX5_stripsOf_15 hok.1 hok.2 hin9 ?_
      refine lv_icmp_ge (tgt := 25) B.1.1 B.1.2.1 dX5_stripsOf_16 (by decide) (fun hc => ?_) (fun hc => ?_)
      · replace hw := hw.1 hc
        exact hk m2 _ _ _ ls h (lv_sub hl [0, 1, 2] rfl) hw
      · replace hw := hw.2 hc
        refine lv_iinc (i := 2) (v := (m2 + (1 : Int32))) (lv' := [(2, .int (m2 + (1 : Int32))), (0, .ref c0), (1, .int c1)]) B.1.1 B.1.2.1 dX5_stripsOf_19 hl (k := 2) rfl rfl (by decide) rfl (fun ls hl9 => ?_)
        replace hl := hl9
        clear hl9
        refine lv_goto (tgt := 2) B.1.1 B.1.2.1 dX5_stripsOf_22 (by decide) ?_
        exact ih (m2 + (1 : Int32)) _ _ _ ls h (lv_sub hl [1, 2, 0] rfl) hw hk
  intro h hl hw
  replace hl : lv_has ls 3 [(0, .ref a0), (1, .int x1)] := hl
  refine lv_iconst (v := (1 : Int32)) B.1.1 B.1.2.1 dX5_stripsOf_0 (by decide) ?_
  refine lv_istore_n (i := 2) (lv' := [(2, .int (1 : Int32)), (0, .ref a0), (1, .int x1)]) B.1.1 B.1.2.1 dX5_stripsOf_1 rfl hl (by decide) rfl (fun ls hl9 => ?_)
  replace hl := hl9
  clear hl9
  obtain ⟨n1, hw⟩ := hw
  refine L2 a0 x1 _ n1 (1 : Int32) _ _ _ ls h (lv_sub hl [1, 2, 0] rfl) hw (fun u1 S2 H locs ls h9 hl9 hw9 => ?_)
  replace hw := hw9
  clear hw9
  replace h := h9
  clear h9
  replace hl := hl9
  clear hl9
  refine lv_iload_n B.1.1 B.1.2.1 dX5_stripsOf_25 rfl (lv_at hl 2 rfl) ?_
  exact q_iret B hr hlk h hw dX5_stripsOf_26 (Nat.le_of_ble_eq_true rfl) (Nat.le_of_ble_eq_true rfl)
set_option maxHeartbeats 4000000 in
set_option maxRecDepth 100000 in
theorem met_X5_isStrip (l : Launch) (a0 : Nat) (x1 : Int32) (x2 : Int32) : MI l yX5_isStrip cX5_isStrip 3 (some .boolean) 3 67 0 0 [.ref a0, .int x1, .int x2] (wX5_isStrip a0 x1 x2) := by
  refine MI.of (by decide) (Nat.le_of_ble_eq_true rfl) ?_
  intro p e s m below meth c D cs lo S Q ls B hr hlk hin
  intro h hl hw
  replace hl : lv_has ls 3 [(0, .ref a0), (1, .int x1), (2, .int x2)] := hl
  refine lv_aload_n B.1.1 B.1.2.1 dX5_isStrip_0 rfl (lv_at hl 0 rfl) ?_
  refine lv_iload_n B.1.1 B.1.2.1 dX5_isStrip_1 rfl (lv_at hl 1 rfl) ?_
  obtain ⟨hok, hw⟩ := hw
  refine q_callIV B h (met_X5_isBanner l a0 x1) (CB B 1 kC_X5_isBanner kI_RX5 kM_RX5_73 hd_X5_isBanner ⟨Nat.le_of_ble_eq_true rfl, Nat.le_of_ble_eq_true rfl⟩) kO_X5_isBanner kV_X5_isBanner (ci := 5) rfl (by decide) hok.1 hok.2 (rest := []) rfl rfl hl.1 (Nat.le_of_ble_eq_true rfl) dX5_isStrip_2 ⟨Nat.le_of_ble_eq_true rfl, Nat.le_of_ble_eq_true rfl⟩ hw (fun r1 S1 H locs hw9 h9 => ?_)
  replace hw := hw9
  clear hw9
  replace h := h9
  clear h9
  refine lv_if_eq (tgt := 27) B.1.1 B.1.2.1 dX5_isStrip_5 (by decide) (fun hc => ?_) (fun hc => ?_)
  · replace hw := hw.1 hc
    refine lv_iconst (v := (0 : Int32)) B.1.1 B.1.2.1 dX5_isStrip_27 (by decide) ?_
    exact q_zret B hr hlk h (by decide) hw dX5_isStrip_28 (Nat.le_of_ble_eq_true rfl) (Nat.le_of_ble_eq_true rfl)
  · replace hw := hw.2 hc
    refine lv_iload_n B.1.1 B.1.2.1 dX5_isStrip_8 rfl (lv_at hl 2 rfl) ?_
    refine lv_iconst (v := (0 : Int32)) B.1.1 B.1.2.1 dX5_isStrip_9 (by decide) ?_
    refine lv_aload_n B.1.1 B.1.2.1 dX5_isStrip_10 rfl (lv_at hl 0 rfl) ?_
    refine lv_iload_n B.1.1 B.1.2.1 dX5_isStrip_11 rfl (lv_at hl 1 rfl) ?_
    obtain ⟨hok, hw⟩ := hw
    refine q_callIV B h (met_X5_stripsOf l a0 x1) (CB B 1 kC_X5_stripsOf kI_RX5 kM_RX5_77 hd_X5_stripsOf ⟨Nat.le_of_ble_eq_true rfl, Nat.le_of_ble_eq_true rfl⟩) kO_X5_stripsOf kV_X5_stripsOf (ci := 5) rfl (by decide) hok.1 hok.2 (rest := [.int (0 : Int32), .int x2]) rfl rfl hl.1 (Nat.le_of_ble_eq_true rfl) dX5_isStrip_12 ⟨Nat.le_of_ble_eq_true rfl, Nat.le_of_ble_eq_true rfl⟩ hw (fun r2 S2 H locs hw9 h9 => ?_)
    replace hw := hw9
    clear hw9
    replace h := h9
    clear h9
    refine lv_iconst (v := (1 : Int32)) B.1.1 B.1.2.1 dX5_isStrip_15 (by decide) ?_
    refine lv_isub B.1.1 B.1.2.1 dX5_isStrip_16 ?_
    refine q_callIS B h (met_X5_isIn l x2 (0 : Int32) (r2 - (1 : Int32))) (CB B 3 kC_X5_isIn kI_RX5 kM_RX5_69 hd_X5_isIn ⟨Nat.le_of_ble_eq_true rfl, Nat.le_of_ble_eq_true rfl⟩) kS_X5_isIn (rest := []) rfl rfl hl.1 (Nat.le_of_ble_eq_true rfl) dX5_isStrip_17 ⟨Nat.le_of_ble_eq_true rfl, Nat.le_of_ble_eq_true rfl⟩ hw (fun r3 S3 H locs hw9 h9 => ?_)
    replace hw := hw9
    clear hw9
    replace h := h9
    clear h9
    refine lv_if_eq (tgt := 27) B.1.1 B.1.2.1 dX5_isStrip_20 (by decide) (fun hc => ?_) (fun hc => ?_)
    · replace hw := hw.1 hc
      refine lv_iconst (v := (0 : Int32)) B.1.1 B.1.2.1 dX5_isStrip_27 (by decide) ?_
      exact q_zret B hr hlk h (by decide) hw dX5_isStrip_28 (Nat.le_of_ble_eq_true rfl) (Nat.le_of_ble_eq_true rfl)
    · replace hw := hw.2 hc
      refine lv_iconst (v := (1 : Int32)) B.1.1 B.1.2.1 dX5_isStrip_23 (by decide) ?_
      refine lv_goto (tgt := 28) B.1.1 B.1.2.1 dX5_isStrip_24 (by decide) ?_
      exact q_zret B hr hlk h (by decide) hw dX5_isStrip_28 (Nat.le_of_ble_eq_true rfl) (Nat.le_of_ble_eq_true rfl)
set_option maxHeartbeats 4000000 in
set_option maxRecDepth 100000 in
theorem met_X5_isDot (l : Launch) (a0 : Nat) (x1 : Int32) (x2 : Int32) (x3 : Int32) : MI l yX5_isDot cX5_isDot 4 (some .boolean) 2 43 0 0 [.ref a0, .int x1, .int x2, .int x3] (wX5_isDot a0 x1 x2 x3) := by
  refine MI.of (by decide) (Nat.le_of_ble_eq_true rfl) ?_
  intro p e s m below meth c D cs lo S Q ls B hr hlk hin
  intro h hl hw
  replace hl : lv_has ls 4 [(0, .ref a0), (1, .int x1), (2, .int x2), (3, .int x3)] := hl
  refine lv_aload_n B.1.1 B.1.2.1 dX5_isDot_0 rfl (lv_at hl 0 rfl) ?_
  refine lv_iload_n B.1.1 B.1.2.1 dX5_isDot_1 rfl (lv_at hl 1 rfl) ?_
  obtain ⟨hok, hw⟩ := hw
  refine q_callIV B h (met_X5_isBanner l a0 x1) (CB B 1 kC_X5_isBanner kI_RX5 kM_RX5_73 hd_X5_isBanner ⟨Nat.le_of_ble_eq_true rfl, Nat.le_of_ble_eq_true rfl⟩) kO_X5_isBanner kV_X5_isBanner (ci := 5) rfl (by decide) hok.1 hok.2 (rest := []) rfl rfl hl.1 (Nat.le_of_ble_eq_true rfl) dX5_isDot_2 ⟨Nat.le_of_ble_eq_true rfl, Nat.le_of_ble_eq_true rfl⟩ hw (fun r1 S1 H locs hw9 h9 => ?_)
  replace hw := hw9
  clear hw9
  replace h := h9
  clear h9
  refine lv_if_eq (tgt := 35) B.1.1 B.1.2.1 dX5_isDot_5 (by decide) (fun hc => ?_) (fun hc => ?_)
  · replace hw := hw.1 hc
    refine lv_iconst (v := (0 : Int32)) B.1.1 B.1.2.1 dX5_isDot_35 (by decide) ?_
    exact q_zret B hr hlk h (by decide) hw dX5_isDot_36 (Nat.le_of_ble_eq_true rfl) (Nat.le_of_ble_eq_true rfl)
  · replace hw := hw.2 hc
    refine lv_iload_n B.1.1 B.1.2.1 dX5_isDot_8 rfl (lv_at hl 2 rfl) ?_
    refine q_callIS B h (met_X5_isRow l x2) (CB B 1 kC_X5_isRow kI_RX5 kM_RX5_81 hd_X5_isRow ⟨Nat.le_of_ble_eq_true rfl, Nat.le_of_ble_eq_true rfl⟩) kS_X5_isRow (rest := []) rfl rfl hl.1 (Nat.le_of_ble_eq_true rfl) dX5_isDot_9 ⟨Nat.le_of_ble_eq_true rfl, Nat.le_of_ble_eq_true rfl⟩ hw (fun r2 S2 H locs hw9 h9 => ?_)
    replace hw := hw9
    clear hw9
    replace h := h9
    clear h9
    refine lv_if_eq (tgt := 35) B.1.1 B.1.2.1 dX5_isDot_12 (by decide) (fun hc => ?_) (fun hc => ?_)
    · replace hw := hw.1 hc
      refine lv_iconst (v := (0 : Int32)) B.1.1 B.1.2.1 dX5_isDot_35 (by decide) ?_
      exact q_zret B hr hlk h (by decide) hw dX5_isDot_36 (Nat.le_of_ble_eq_true rfl) (Nat.le_of_ble_eq_true rfl)
    · replace hw := hw.2 hc
      refine lv_iload_n B.1.1 B.1.2.1 dX5_isDot_15 rfl (lv_at hl 3 rfl) ?_
      refine lv_iconst (v := (0 : Int32)) B.1.1 B.1.2.1 dX5_isDot_16 (by decide) ?_
      refine lv_aload_n B.1.1 B.1.2.1 dX5_isDot_17 rfl (lv_at hl 0 rfl) ?_
      obtain ⟨hok, hw⟩ := hw
      refine q_getR B h (ci := 5) (j := 2) (code := 162) rfl inT_5 (by decide) kF_RX5_7 rfl rfl rfl (by decide) dX5_isDot_18 hok.1 hok.2 ?_
      obtain ⟨o1, hoo1⟩ : ∃ z, z = gR S2 162 a0 := ⟨_, rfl⟩
      rw [← hoo1]
      replace hw := hw o1 hoo1
      refine lv_iload_n B.1.1 B.1.2.1 dX5_isDot_21 rfl (lv_at hl 1 rfl) ?_
      obtain ⟨q1, hn, hw⟩ := hw
      subst hn
      replace hl : lv_has ls 4 [(0, .ref a0), (1, .int x1), (2, .int x2), (3, .int x3)] := hl
      obtain ⟨hok, hin9, hw⟩ := hw
      refine q_iald B h dX5_isDot_22 hok.1 hok.2 hin9 ?_
      refine lv_iconst (v := (1 : Int32)) B.1.1 B.1.2.1 dX5_isDot_23 (by decide) ?_
      refine lv_isub B.1.1 B.1.2.1 dX5_isDot_24 ?_
      refine q_callIS B h (met_X5_isIn l x3 (0 : Int32) ((gA S2 q1 x1.toNatClampNeg) - (1 : Int32))) (CB B 3 kC_X5_isIn kI_RX5 kM_RX5_69 hd_X5_isIn ⟨Nat.le_of_ble_eq_true rfl, Nat.le_of_ble_eq_true rfl⟩) kS_X5_isIn (rest := []) rfl rfl hl.1 (Nat.le_of_ble_eq_true rfl) dX5_isDot_25 ⟨Nat.le_of_ble_eq_true rfl, Nat.le_of_ble_eq_true rfl⟩ hw (fun r3 S3 H locs hw9 h9 => ?_)
      replace hw := hw9
      clear hw9
      replace h := h9
      clear h9
      refine lv_if_eq (tgt := 35) B.1.1 B.1.2.1 dX5_isDot_28 (by decide) (fun hc => ?_) (fun hc => ?_)
      · replace hw := hw.1 hc
        refine lv_iconst (v := (0 : Int32)) B.1.1 B.1.2.1 dX5_isDot_35 (by decide) ?_
        exact q_zret B hr hlk h (by decide) hw dX5_isDot_36 (Nat.le_of_ble_eq_true rfl) (Nat.le_of_ble_eq_true rfl)
      · replace hw := hw.2 hc
        refine lv_iconst (v := (1 : Int32)) B.1.1 B.1.2.1 dX5_isDot_31 (by decide) ?_
        refine lv_goto (tgt := 36) B.1.1 B.1.2.1 dX5_isDot_32 (by decide) ?_
        exact q_zret B hr hlk h (by decide) hw dX5_isDot_36 (Nat.le_of_ble_eq_true rfl) (Nat.le_of_ble_eq_true rfl)
set_option maxHeartbeats 4000000 in
set_option maxRecDepth 100000 in
theorem met_X5_dot (l : Launch) (x0 : Int32) (x1 : Int32) (x2 : Int32) : MI l yX5_dot cX5_dot 3 (some .int) 0 0 0 0 [.int x0, .int x1, .int x2] (wX5_dot x0 x1 x2) := by
  refine MI.of (by decide) (Nat.le_of_ble_eq_true rfl) ?_
  intro p e s m below meth c D cs lo S Q ls B hr hlk hin
  intro h hl hw
  replace hl : lv_has ls 3 [(0, .int x0), (1, .int x1), (2, .int x2)] := hl
  refine lv_bipush (v := (32 : Int32)) B.1.1 B.1.2.1 dX5_dot_0 (by decide) ?_
  refine lv_bipush (v := (8 : Int32)) B.1.1 B.1.2.1 dX5_dot_2 (by decide) ?_
  refine lv_iload_n B.1.1 B.1.2.1 dX5_dot_4 rfl (lv_at hl 0 rfl) ?_
  refine lv_imul B.1.1 B.1.2.1 dX5_dot_5 ?_
  refine lv_iload_n B.1.1 B.1.2.1 dX5_dot_6 rfl (lv_at hl 1 rfl) ?_
  refine lv_iadd B.1.1 B.1.2.1 dX5_dot_7 ?_
  refine lv_imul B.1.1 B.1.2.1 dX5_dot_8 ?_
  refine lv_iload_n B.1.1 B.1.2.1 dX5_dot_9 rfl (lv_at hl 2 rfl) ?_
  refine lv_iadd B.1.1 B.1.2.1 dX5_dot_10 ?_
  exact q_iret B hr hlk h hw dX5_dot_11 (Nat.le_of_ble_eq_true rfl) (Nat.le_of_ble_eq_true rfl)
set_option maxHeartbeats 4000000 in
set_option maxRecDepth 100000 in
theorem met_X5_has (l : Launch) (a0 : Nat) (x1 : Int32) (x2 : Int32) (x3 : Int32) : MI l yX5_has cX5_has 4 (some .boolean) 3 67 0 0 [.ref a0, .int x1, .int x2, .int x3] (wX5_has a0 x1 x2 x3) := by
  refine MI.of (by decide) (Nat.le_of_ble_eq_true rfl) ?_
  intro p e s m below meth c D cs lo S Q ls B hr hlk hin
  intro h hl hw
  replace hl : lv_has ls 4 [(0, .ref a0), (1, .int x1), (2, .int x2), (3, .int x3)] := hl
  refine lv_iload_n B.1.1 B.1.2.1 dX5_has_0 rfl (lv_at hl 2 rfl) ?_
  refine lv_iconst (v := (0 : Int32)) B.1.1 B.1.2.1 dX5_has_1 (by decide) ?_
  refine lv_aload_n B.1.1 B.1.2.1 dX5_has_2 rfl (lv_at hl 0 rfl) ?_
  refine lv_iload_n B.1.1 B.1.2.1 dX5_has_3 rfl (lv_at hl 1 rfl) ?_
  obtain ⟨hok, hw⟩ := hw
  refine q_callIV B h (met_X5_stripsOf l a0 x1) (CB B 1 kC_X5_stripsOf kI_RX5 kM_RX5_77 hd_X5_stripsOf ⟨Nat.le_of_ble_eq_true rfl, Nat.le_of_ble_eq_true rfl⟩) kO_X5_stripsOf kV_X5_stripsOf (ci := 5) rfl (by decide) hok.1 hok.2 (rest := [.int (0 : Int32), .int x2]) rfl rfl hl.1 (Nat.le_of_ble_eq_true rfl) dX5_has_4 ⟨Nat.le_of_ble_eq_true rfl, Nat.le_of_ble_eq_true rfl⟩ hw (fun r1 S1 H locs hw9 h9 => ?_)
  replace hw := hw9
  clear hw9
  replace h := h9
  clear h9
  refine lv_iconst (v := (1 : Int32)) B.1.1 B.1.2.1 dX5_has_7 (by decide) ?_
  refine lv_isub B.1.1 B.1.2.1 dX5_has_8 ?_
  refine q_callIS B h (met_X5_isIn l x2 (0 : Int32) (r1 - (1 : Int32))) (CB B 3 kC_X5_isIn kI_RX5 kM_RX5_69 hd_X5_isIn ⟨Nat.le_of_ble_eq_true rfl, Nat.le_of_ble_eq_true rfl⟩) kS_X5_isIn (rest := []) rfl rfl hl.1 (Nat.le_of_ble_eq_true rfl) dX5_has_9 ⟨Nat.le_of_ble_eq_true rfl, Nat.le_of_ble_eq_true rfl⟩ hw (fun r2 S2 H locs hw9 h9 => ?_)
  replace hw := hw9
  clear hw9
  replace h := h9
  clear h9
  refine lv_if_eq (tgt := 40) B.1.1 B.1.2.1 dX5_has_12 (by decide) (fun hc => ?_) (fun hc => ?_)
  · replace hw := hw.1 hc
    refine lv_iconst (v := (0 : Int32)) B.1.1 B.1.2.1 dX5_has_40 (by decide) ?_
    exact q_zret B hr hlk h (by decide) hw dX5_has_41 (Nat.le_of_ble_eq_true rfl) (Nat.le_of_ble_eq_true rfl)
  · replace hw := hw.2 hc
    refine lv_iload_n B.1.1 B.1.2.1 dX5_has_15 rfl (lv_at hl 3 rfl) ?_
    refine lv_aload_n B.1.1 B.1.2.1 dX5_has_16 rfl (lv_at hl 0 rfl) ?_
    refine lv_iload_n B.1.1 B.1.2.1 dX5_has_17 rfl (lv_at hl 1 rfl) ?_
    refine lv_iload_n B.1.1 B.1.2.1 dX5_has_18 rfl (lv_at hl 2 rfl) ?_
    obtain ⟨hok, hw⟩ := hw
    refine q_callIV B h (met_X5_first l a0 x1 x2) (CB B 2 kC_X5_first kI_RX5 kM_RX5_84 hd_X5_first ⟨Nat.le_of_ble_eq_true rfl, Nat.le_of_ble_eq_true rfl⟩) kO_X5_first kV_X5_first (ci := 5) rfl (by decide) hok.1 hok.2 (rest := [.int x3]) rfl rfl hl.1 (Nat.le_of_ble_eq_true rfl) dX5_has_19 ⟨Nat.le_of_ble_eq_true rfl, Nat.le_of_ble_eq_true rfl⟩ hw (fun r3 S3 H locs hw9 h9 => ?_)
    replace hw := hw9
    clear hw9
    replace h := h9
    clear h9
    refine lv_aload_n B.1.1 B.1.2.1 dX5_has_22 rfl (lv_at hl 0 rfl) ?_
    refine lv_iload_n B.1.1 B.1.2.1 dX5_has_23 rfl (lv_at hl 1 rfl) ?_
    refine lv_iload_n B.1.1 B.1.2.1 dX5_has_24 rfl (lv_at hl 2 rfl) ?_
    obtain ⟨hok, hw⟩ := hw
    refine q_callIV B h (met_X5_end l a0 x1 x2) (CB B 2 kC_X5_end kI_RX5 kM_RX5_88 hd_X5_end ⟨Nat.le_of_ble_eq_true rfl, Nat.le_of_ble_eq_true rfl⟩) kO_X5_end kV_X5_end (ci := 5) rfl (by decide) hok.1 hok.2 (rest := [.int r3, .int x3]) rfl rfl hl.1 (Nat.le_of_ble_eq_true rfl) dX5_has_25 ⟨Nat.le_of_ble_eq_true rfl, Nat.le_of_ble_eq_true rfl⟩ hw (fun r4 S4 H locs hw9 h9 => ?_)
    replace hw := hw9
    clear hw9
    replace h := h9
    clear h9
    refine lv_iconst (v := (1 : Int32)) B.1.1 B.1.2.1 dX5_has_28 (by decide) ?_
    refine lv_isub B.1.1 B.1.2.1 dX5_has_29 ?_
    refine q_callIS B h (met_X5_isIn l x3 r3 (r4 - (1 : Int32))) (CB B 3 kC_X5_isIn kI_RX5 kM_RX5_69 hd_X5_isIn ⟨Nat.le_of_ble_eq_true rfl, Nat.le_of_ble_eq_true rfl⟩) kS_X5_isIn (rest := []) rfl rfl hl.1 (Nat.le_of_ble_eq_true rfl) dX5_has_30 ⟨Nat.le_of_ble_eq_true rfl, Nat.le_of_ble_eq_true rfl⟩ hw (fun r5 S5 H locs hw9 h9 => ?_)
    replace hw := hw9
    clear hw9
    replace h := h9
    clear h9
    refine lv_if_eq (tgt := 40) B.1.1 B.1.2.1 dX5_has_33 (by decide) (fun hc => ?_) (fun hc => ?_)
    · replace hw := hw.1 hc
      refine lv_iconst (v := (0 : Int32)) B.1.1 B.1.2.1 dX5_has_40 (by decide) ?_
      exact q_zret B hr hlk h (by decide) hw dX5_has_41 (Nat.le_of_ble_eq_true rfl) (Nat.le_of_ble_eq_true rfl)
    · replace hw := hw.2 hc
      refine lv_iconst (v := (1 : Int32)) B.1.1 B.1.2.1 dX5_has_36 (by decide) ?_
      refine lv_goto (tgt := 41) B.1.1 B.1.2.1 dX5_has_37 (by decide) ?_
      exact q_zret B hr hlk h (by decide) hw dX5_has_41 (Nat.le_of_ble_eq_true rfl) (Nat.le_of_ble_eq_true rfl)
set_option maxHeartbeats 4000000 in
set_option maxRecDepth 100000 in
theorem met_X5_lays (l : Launch) (a0 : Nat) (x1 : Int32) (x2 : Int32) (x3 : Int32) (x4 : Int32) : MI l yX5_lays cX5_lays 6 (some .int) 4 90 0 0 [.ref a0, .int x1, .int x2, .int x3, .int x4] (wX5_lays a0 x1 x2 x3 x4) := by
  refine MI.of (by decide) (Nat.le_of_ble_eq_true rfl) ?_
  intro p e s m below meth c D cs lo S Q ls B hr hlk hin
  intro h hl hw
  replace hl : lv_has ls 6 [(0, .ref a0), (1, .int x1), (2, .int x2), (3, .int x3), (4, .int x4)] := hl
  refine lv_aload_n B.1.1 B.1.2.1 dX5_lays_0 rfl (lv_at hl 0 rfl) ?_
  obtain ⟨hok, hw⟩ := hw
  refine q_getR B h (ci := 5) (j := 7) (code := 167) rfl inT_5 (by decide) kF_RX5_25 rfl rfl rfl (by decide) dX5_lays_1 hok.1 hok.2 ?_
  obtain ⟨o1, hoo1⟩ : ∃ z, z = gR S 167 a0 := ⟨_, rfl⟩
  rw [← hoo1]
  replace hw := hw o1 hoo1
  refine lv_iload_n B.1.1 B.1.2.1 dX5_lays_4 rfl (lv_at hl 1 rfl) ?_
  refine lv_iload_n B.1.1 B.1.2.1 dX5_lays_5 rfl (lv_at hl 3 rfl) ?_
  refine lv_iload B.1.1 B.1.2.1 dX5_lays_6 (lv_at hl 4 rfl) ?_
  refine q_callIS B h (met_X5_dot l x1 x3 x4) (CB B 3 kC_X5_dot kI_RX5 kM_RX5_97 hd_X5_dot ⟨Nat.le_of_ble_eq_true rfl, Nat.le_of_ble_eq_true rfl⟩) kS_X5_dot (rest := [va_rf o1]) rfl rfl hl.1 (by simp [rf_cat, cat_i, cat_r, cat_n, cat_j, cat_f, cat_d]) dX5_lays_8 ⟨Nat.le_of_ble_eq_true rfl, Nat.le_of_ble_eq_true rfl⟩ hw (fun r1 S1 H locs hw9 h9 => ?_)
  replace hw := hw9
  clear hw9
  replace h := h9
  clear h9
  obtain ⟨q1, hn, hw⟩ := hw
  subst hn
  replace hl : lv_has ls 6 [(0, .ref a0), (1, .int x1), (2, .int x2), (3, .int x3), (4, .int x4)] := hl
  obtain ⟨hok, hin9, hw⟩ := hw
  refine q_iald B h dX5_lays_11 hok.1 hok.2 hin9 ?_
  refine lv_istore (i := 5) (lv' := [(5, .int (gA S1 q1 r1.toNatClampNeg)), (0, .ref a0), (1, .int x1), (2, .int x2), (3, .int x3), (4, .int x4)]) B.1.1 B.1.2.1 dX5_lays_12 hl (by decide) rfl (fun ls hl9 => ?_)
  replace hl := hl9
  clear hl9
  refine lv_aload_n B.1.1 B.1.2.1 dX5_lays_14 rfl (lv_at hl 1 rfl) ?_
  refine lv_iload_n B.1.1 B.1.2.1 dX5_lays_15 rfl (lv_at hl 2 rfl) ?_
  refine lv_iload_n B.1.1 B.1.2.1 dX5_lays_16 rfl (lv_at hl 3 rfl) ?_
  refine lv_iload B.1.1 B.1.2.1 dX5_lays_17 (lv_at hl 5 rfl) ?_
  obtain ⟨hok, hw⟩ := hw
  refine q_callIV B h (met_X5_has l a0 x1 x2 x4) (CB B 3 kC_X5_has kI_RX5 kM_RX5_101 hd_X5_has ⟨Nat.le_of_ble_eq_true rfl, Nat.le_of_ble_eq_true rfl⟩) kO_X5_has kV_X5_has (ci := 5) rfl (by decide) hok.1 hok.2 (rest := []) rfl rfl hl.1 (Nat.le_of_ble_eq_true rfl) dX5_lays_19 ⟨Nat.le_of_ble_eq_true rfl, Nat.le_of_ble_eq_true rfl⟩ hw (fun r2 S2 H locs hw9 h9 => ?_)
  replace hw := hw9
  clear hw9
  replace h := h9
  clear h9
  refine lv_if_ne (tgt := 27) B.1.1 B.1.2.1 dX5_lays_22 (by decide) (fun hc => ?_) (fun hc => ?_)
  · replace hw := hw.1 hc
    refine lv_aload_n B.1.1 B.1.2.1 dX5_lays_27 rfl (lv_at hl 1 rfl) ?_
    refine lv_iload_n B.1.1 B.1.2.1 dX5_lays_28 rfl (lv_at hl 2 rfl) ?_
    refine lv_iload_n B.1.1 B.1.2.1 dX5_lays_29 rfl (lv_at hl 3 rfl) ?_
    refine lv_iconst (v := (1 : Int32)) B.1.1 B.1.2.1 dX5_lays_30 (by decide) ?_
    refine lv_iadd B.1.1 B.1.2.1 dX5_lays_31 ?_
    refine lv_iload B.1.1 B.1.2.1 dX5_lays_32 (lv_at hl 5 rfl) ?_
    obtain ⟨hok, hw⟩ := hw
    refine q_callIV B h (met_X5_has l a0 x1 (x2 + (1 : Int32)) x4) (CB B 3 kC_X5_has kI_RX5 kM_RX5_101 hd_X5_has ⟨Nat.le_of_ble_eq_true rfl, Nat.le_of_ble_eq_true rfl⟩) kO_X5_has kV_X5_has (ci := 5) rfl (by decide) hok.1 hok.2 (rest := []) rfl rfl hl.1 (Nat.le_of_ble_eq_true rfl) dX5_lays_34 ⟨Nat.le_of_ble_eq_true rfl, Nat.le_of_ble_eq_true rfl⟩ hw (fun r3 S3 H locs hw9 h9 => ?_)
    replace hw := hw9
    clear hw9
    replace h := h9
    clear h9
    refine lv_if_eq (tgt := 49) B.1.1 B.1.2.1 dX5_lays_37 (by decide) (fun hc => ?_) (fun hc => ?_)
    · replace hw := hw.1 hc
      refine lv_aload_n B.1.1 B.1.2.1 dX5_lays_49 rfl (lv_at hl 1 rfl) ?_
      refine lv_iload_n B.1.1 B.1.2.1 dX5_lays_50 rfl (lv_at hl 2 rfl) ?_
      refine lv_iload_n B.1.1 B.1.2.1 dX5_lays_51 rfl (lv_at hl 3 rfl) ?_
      refine lv_iconst (v := (1 : Int32)) B.1.1 B.1.2.1 dX5_lays_52 (by decide) ?_
      refine lv_isub B.1.1 B.1.2.1 dX5_lays_53 ?_
      refine lv_iload B.1.1 B.1.2.1 dX5_lays_54 (lv_at hl 5 rfl) ?_
      obtain ⟨hok, hw⟩ := hw
      refine q_callIV B h (met_X5_has l a0 x1 (x2 - (1 : Int32)) x4) (CB B 3 kC_X5_has kI_RX5 kM_RX5_101 hd_X5_has ⟨Nat.le_of_ble_eq_true rfl, Nat.le_of_ble_eq_true rfl⟩) kO_X5_has kV_X5_has (ci := 5) rfl (by decide) hok.1 hok.2 (rest := []) rfl rfl hl.1 (Nat.le_of_ble_eq_true rfl) dX5_lays_56 ⟨Nat.le_of_ble_eq_true rfl, Nat.le_of_ble_eq_true rfl⟩ hw (fun r4 S4 H locs hw9 h9 => ?_)
      replace hw := hw9
      clear hw9
      replace h := h9
      clear h9
      refine lv_if_eq (tgt := 69) B.1.1 B.1.2.1 dX5_lays_59 (by decide) (fun hc => ?_) (fun hc => ?_)
      · replace hw := hw.1 hc
        refine lv_iload B.1.1 B.1.2.1 dX5_lays_69 (lv_at hl 0 rfl) ?_
        exact q_iret B hr hlk h hw dX5_lays_71 (Nat.le_of_ble_eq_true rfl) (Nat.le_of_ble_eq_true rfl)
      · replace hw := hw.2 hc
        refine lv_iload B.1.1 B.1.2.1 dX5_lays_62 (lv_at hl 0 rfl) ?_
        refine lv_iconst (v := (2 : Int32)) B.1.1 B.1.2.1 dX5_lays_64 (by decide) ?_
        refine lv_idiv B.1.1 B.1.2.1 dX5_lays_65 (by decide) ?_
        refine lv_goto (tgt := 71) B.1.1 B.1.2.1 dX5_lays_66 (by decide) ?_
        exact q_iret B hr hlk h hw dX5_lays_71 (Nat.le_of_ble_eq_true rfl) (Nat.le_of_ble_eq_true rfl)
    · replace hw := hw.2 hc
      refine lv_iload B.1.1 B.1.2.1 dX5_lays_40 (lv_at hl 0 rfl) ?_
      refine lv_iconst (v := (1 : Int32)) B.1.1 B.1.2.1 dX5_lays_42 (by decide) ?_
      refine lv_iadd B.1.1 B.1.2.1 dX5_lays_43 ?_
      refine lv_iconst (v := (2 : Int32)) B.1.1 B.1.2.1 dX5_lays_44 (by decide) ?_
      refine lv_idiv B.1.1 B.1.2.1 dX5_lays_45 (by decide) ?_
      refine lv_goto (tgt := 71) B.1.1 B.1.2.1 dX5_lays_46 (by decide) ?_
      exact q_iret B hr hlk h hw dX5_lays_71 (Nat.le_of_ble_eq_true rfl) (Nat.le_of_ble_eq_true rfl)
  · replace hw := hw.2 hc
    refine lv_iconst (v := (0 : Int32)) B.1.1 B.1.2.1 dX5_lays_25 (by decide) ?_
    exact q_iret B hr hlk h hw dX5_lays_26 (Nat.le_of_ble_eq_true rfl) (Nat.le_of_ble_eq_true rfl)
set_option maxHeartbeats 4000000 in
set_option maxRecDepth 100000 in
theorem met_X5_blocked (l : Launch) (a0 : Nat) (x1 : Int32) : MI l yX5_blocked cX5_blocked 4 (some .int) 0 0 0 0 [.ref a0, .int x1] (wX5_blocked a0 x1) := by
  refine MI.of (by decide) (Nat.le_of_ble_eq_true rfl) ?_
  intro p e s m below meth c D cs lo S Q ls B hr hlk hin
  have L4 : ∀ (c0 : Nat) (c1 : Int32) (K : Int32 → Int32 → HS → Prop) (n : Nat) (m2 : Int32) (m3 : Int32) (S : HS) (H : Heap) (locs : List Loc) (ls : Array Slot), Hx D cs lo s S H locs → lv_has ls 4 [(0, .ref c0), (1, .int c1), (2, .int m2), (3, .int m3)] → wX5_blocked_L4 c0 c1 n m2 m3 S K → (∀ (m2 : Int32) (m3 : Int32) (S : HS) (H : Heap) (locs : List Loc) (ls : Array Slot), Hx D cs lo s S H locs → lv_has ls 4 [(0, .ref c0), (1, .int c1), (2, .int m2), (3, .int m3)] → K m2 m3 S → W p l e ({ frames := 0, cells := 0, slots := 0, locals := 0 } : Room) s m [.ref a0, .int x1].toArray below meth c H locs 0 0 (MQ below (va_Qi Q (fun S' t => hp D cs lo S' t.heap) (fun q => lo ≤ q)) [.ref a0, .int x1].toArray s 0 0 (fun q => lo ≤ q)) (F0 m 38 ls [])) → W p l e ({ frames := 0, cells := 0, slots := 0, locals := 0 } : Room) s m [.ref a0, .int x1].toArray below meth c H locs 0 0 (MQ below (va_Qi Q (fun S' t => hp D cs lo S' t.heap) (fun q => lo ≤ q)) [.ref a0, .int x1].toArray s 0 0 (fun q => lo ≤ q)) (F0 m 4 ls []) := by
    intro c0 c1 K n
    induction n with
    | zero => intro m2 m3 S H locs ls h hl hw hk; exact False.elim hw
    | succ n ih =>
      intro m2 m3 S H locs ls h hl hw hk
      refine lv_iload_n B.1.1 B.1.2.1 dX5_blocked_4 rfl (lv_at hl 3 rfl) ?_
      refine lv_bipush (v := (8 : Int32)) B.1.1 B.1.2.1 dX5_blocked_5 (by decide) ?_
      refine lv_icmp_ge (tgt := 38) B.1.1 B.1.2.1 dX5_blocked_7 (by decide) (fun hc => ?_) (fun hc => ?_)
      · replace hw := hw.1 hc
        exact hk m2 m3 _ _ _ ls h (lv_sub hl [0, 1, 2, 3] rfl) hw
      · replace hw := hw.2 hc
        refine lv_iload_n B.1.1 B.1.2.1 dX5_blocked_10 rfl (lv_at hl 2 rfl) ?_
        refine lv_aload_n B.1.1 B.1.2.1 dX5_blocked_11 rfl (lv_at hl 0 rfl) ?_
        obtain ⟨hok, hw⟩ := hw
        refine q_getR B h (ci := 5) (j := 14) (code := 174) rfl inT_5 (by decide) kF_RX5_46 rfl rfl rfl (by decide) dX5_blocked_12 hok.1 hok.2 ?_
        obtain ⟨o1, hoo1⟩ : ∃ z, z = gR S 174 c0 := ⟨_, rfl⟩
        rw [← hoo1]
        replace hw := hw o1 hoo1
        refine lv_bipush (v := (8 : Int32)) B.1.1 B.1.2.1 dX5_blocked_15 (by decide) ?_
        refine lv_iload_n B.1.1 B.1.2.1 dX5_blocked_17 rfl (lv_at hl 1 rfl) ?_
        refine lv_imul B.1.1 B.1.2.1 dX5_blocked_18 ?_
        refine lv_iload_n B.1.1 B.1.2.1 dX5_blocked_19 rfl (lv_at hl 3 rfl) ?_
        refine lv_iadd B.1.1 B.1.2.1 dX5_blocked_20 ?_
        obtain ⟨q1, hn, hw⟩ := hw
        subst hn
        replace hl : lv_has ls 4 [(0, .ref c0), (1, .int c1), (2, .int m2), (3, .int m3)] := hl
        obtain ⟨hok, hin9, hw⟩ := hw
        refine q_zald B h dX5_blocked_21 hok.1 hok.2 hin9 ?_
        refine lv_if_eq (tgt := 29) B.1.1 B.1.2.1 dX5_blocked_22 (by decide) (fun hc => ?_) (fun hc => ?_)
        · replace hw := hw.1 hc
          refine lv_iconst (v := (0 : Int32)) B.1.1 B.1.2.1 dX5_blocked_29 (by decide) ?_
          refine lv_iadd B.1.1 B.1.2.1 dX5_blocked_30 ?_
          refine lv_istore_n (i := 2) (lv' := [(2, .int (m2 + (0 : Int32))), (0, .ref c0), (1, .int c1), (3, .int m3)]) B.1.1 B.1.2.1 dX5_blocked_31 rfl hl (by decide) rfl (fun ls hl9 => ?_)
          replace hl := hl9
          clear hl9
          refine lv_iinc (i := 3) (v := (m3 + (1 : Int32))) (lv' := [(3, .int (m3 + (1 : Int32))), (2, .int (m2 + (0 : Int32))), (0, .ref c0), (1, .int c1)]) B.1.1 B.1.2.1 dX5_blocked_32 hl (k := 3) rfl rfl (by decide) rfl (fun ls hl9 => ?_)
          replace hl := hl9
          clear hl9
          refine lv_goto (tgt := 4) B.1.1 B.1.2.1 dX5_blocked_35 (by decide) ?_
          exact ih (m2 + (0 : Int32)) (m3 + (1 : Int32)) _ _ _ ls h (lv_sub hl [2, 3, 1, 0] rfl) hw hk
        · replace hw := hw.2 hc
          refine lv_iconst (v := (1 : Int32)) B.1.1 B.1.2.1 dX5_blocked_25 (by decide) ?_
          refine lv_goto (tgt := 30) B.1.1 B.1.2.1 dX5_blocked_26 (by decide) ?_
          refine lv_iadd B.1.1 B.1.2.1 dX5_blocked_30 ?_
          refine lv_istore_n (i := 2) (lv' := [(2, .int (m2 + (1 : Int32))), (0, .ref c0), (1, .int c1), (3, .int m3)]) B.1.1 B.1.2.1 dX5_blocked_31 rfl hl (by decide) rfl (fun ls hl9 => ?_)
          replace hl := hl9
          clear hl9
          refine lv_iinc (i := 3) (v := (m3 + (1 : Int32))) (lv' := [(3, .int (m3 + (1 : Int32))), (2, .int (m2 + (1 : Int32))), (0, .ref c0), (1, .int c1)]) B.1.1 B.1.2.1 dX5_blocked_32 hl (k := 3) rfl rfl (by decide) rfl (fun ls hl9 => ?_)
          replace hl := hl9
          clear hl9
          refine lv_goto (tgt := 4) B.1.1 B.1.2.1 dX5_blocked_35 (by decide) ?_
          exact ih (m2 + (1 : Int32)) (m3 + (1 : Int32)) _ _ _ ls h (lv_sub hl [2, 3, 1, 0] rfl) hw hk
  intro h hl hw
  replace hl : lv_has ls 4 [(0, .ref a0), (1, .int x1)] := hl
  refine lv_iconst (v := (0 : Int32)) B.1.1 B.1.2.1 dX5_blocked_0 (by decide) ?_
  refine lv_istore_n (i := 2) (lv' := [(2, .int (0 : Int32)), (0, .ref a0), (1, .int x1)]) B.1.1 B.1.2.1 dX5_blocked_1 rfl hl (by decide) rfl (fun ls hl9 => ?_)
  replace hl := hl9
  clear hl9
  refine lv_iconst (v := (0 : Int32)) B.1.1 B.1.2.1 dX5_blocked_2 (by decide) ?_
  refine lv_istore_n (i := 3) (lv' := [(3, .int (0 : Int32)), (2, .int (0 : Int32)), (0, .ref a0), (1, .int x1)]) B.1.1 B.1.2.1 dX5_blocked_3 rfl hl (by decide) rfl (fun ls hl9 => ?_)
  replace hl := hl9
  clear hl9
  obtain ⟨n1, hw⟩ := hw
  refine L4 a0 x1 _ n1 (0 : Int32) (0 : Int32) _ _ _ ls h (lv_sub hl [2, 3, 1, 0] rfl) hw (fun u1 u2 S1 H locs ls h9 hl9 hw9 => ?_)
  replace hw := hw9
  clear hw9
  replace h := h9
  clear h9
  replace hl := hl9
  clear hl9
  refine lv_iload_n B.1.1 B.1.2.1 dX5_blocked_38 rfl (lv_at hl 2 rfl) ?_
  exact q_iret B hr hlk h hw dX5_blocked_39 (Nat.le_of_ble_eq_true rfl) (Nat.le_of_ble_eq_true rfl)
set_option maxHeartbeats 4000000 in
set_option maxRecDepth 100000 in
theorem met_X5_wants (l : Launch) (a0 : Nat) (x1 : Int32) (x2 : Int32) (x3 : Int32) : MV l yX5_wants cX5_wants 5 none 0 0 0 0 [.ref a0, .int x1, .int x2, .int x3] (wX5_wants a0 x1 x2 x3) := by
  refine MV.of (by decide) (Nat.le_of_ble_eq_true rfl) ?_
  intro p e s m below meth c D cs lo S Q ls B hr hlk hin
  intro h hl hw
  replace hl : lv_has ls 5 [(0, .ref a0), (1, .int x1), (2, .int x2), (3, .int x3)] := hl
  refine lv_iload_n B.1.1 B.1.2.1 dX5_wants_0 rfl (lv_at hl 3 rfl) ?_
  refine lv_aload_n B.1.1 B.1.2.1 dX5_wants_1 rfl (lv_at hl 0 rfl) ?_
  obtain ⟨hok, hw⟩ := hw
  refine q_getR B h (ci := 5) (j := 13) (code := 173) rfl inT_5 (by decide) kF_RX5_43 rfl rfl rfl (by decide) dX5_wants_2 hok.1 hok.2 ?_
  obtain ⟨o1, hoo1⟩ : ∃ z, z = gR S 173 a0 := ⟨_, rfl⟩
  rw [← hoo1]
  replace hw := hw o1 hoo1
  refine lv_iload_n B.1.1 B.1.2.1 dX5_wants_5 rfl (lv_at hl 1 rfl) ?_
  obtain ⟨q1, hn, hw⟩ := hw
  subst hn
  replace hl : lv_has ls 5 [(0, .ref a0), (1, .int x1), (2, .int x2), (3, .int x3)] := hl
  obtain ⟨hok, hin9, hw⟩ := hw
  refine q_iald B h dX5_wants_6 hok.1 hok.2 hin9 ?_
  refine lv_imul B.1.1 B.1.2.1 dX5_wants_7 ?_
  refine lv_bipush (v := (100 : Int32)) B.1.1 B.1.2.1 dX5_wants_8 (by decide) ?_
  refine lv_idiv B.1.1 B.1.2.1 dX5_wants_10 (by decide) ?_
  refine lv_istore (i := 4) (lv' := [(4, .int ((x3 * (gA S q1 x1.toNatClampNeg)) / (100 : Int32))), (0, .ref a0), (1, .int x1), (2, .int x2), (3, .int x3)]) B.1.1 B.1.2.1 dX5_wants_11 hl (by decide) rfl (fun ls hl9 => ?_)
  replace hl := hl9
  clear hl9
  refine lv_aload_n B.1.1 B.1.2.1 dX5_wants_13 rfl (lv_at hl 1 rfl) ?_
  obtain ⟨hok, hw⟩ := hw
  refine q_getR B h (ci := 5) (j := 18) (code := 178) rfl inT_5 (by decide) kF_RX5_59 rfl rfl rfl (by decide) dX5_wants_14 hok.1 hok.2 ?_
  obtain ⟨o2, hoo2⟩ : ∃ z, z = gR S 178 a0 := ⟨_, rfl⟩
  rw [← hoo2]
  replace hw := hw o2 hoo2
  refine lv_iload_n B.1.1 B.1.2.1 dX5_wants_17 rfl (lv_at hl 3 rfl) ?_
  refine lv_iload B.1.1 B.1.2.1 dX5_wants_18 (lv_at hl 0 rfl) ?_
  refine lv_bipush (v := (15 : Int32)) B.1.1 B.1.2.1 dX5_wants_20 (by decide) ?_
  refine lv_icmp_le (tgt := 30) B.1.1 B.1.2.1 dX5_wants_22 (by decide) (fun hc => ?_) (fun hc => ?_)
  · replace hw := hw.1 hc
    refine lv_iload B.1.1 B.1.2.1 dX5_wants_30 (lv_at hl 0 rfl) ?_
    obtain ⟨q2, hn, hw⟩ := hw
    subst hn
    replace hl : lv_has ls 5 [(4, .int ((x3 * (gA S q1 x1.toNatClampNeg)) / (100 : Int32))), (0, .ref a0), (1, .int x1), (2, .int x2), (3, .int x3)] := hl
    obtain ⟨hok, hin9, hw⟩ := hw
    refine q_iast B h dX5_wants_32 hok.1 hok.2 hin9 (fun H locs h9 => ?_)
    obtain ⟨S1, hS1, hh⟩ : ∃ z, z = sA S q2 x2.toNatClampNeg ((x3 * (gA S q1 x1.toNatClampNeg)) / (100 : Int32)) ∧ Hx D cs lo s z H _ := ⟨_, rfl, h9⟩
    clear h9
    replace h := hh
    clear hh
    replace hw := hw S1 hS1
    exact q_vret B hr hlk h hw dX5_wants_33 (Nat.le_of_ble_eq_true rfl) (Nat.le_of_ble_eq_true rfl)
  · replace hw := hw.2 hc
    refine lv_bipush (v := (15 : Int32)) B.1.1 B.1.2.1 dX5_wants_25 (by decide) ?_
    refine lv_goto (tgt := 32) B.1.1 B.1.2.1 dX5_wants_27 (by decide) ?_
    obtain ⟨q3, hn, hw⟩ := hw
    subst hn
    replace hl : lv_has ls 5 [(4, .int ((x3 * (gA S q1 x1.toNatClampNeg)) / (100 : Int32))), (0, .ref a0), (1, .int x1), (2, .int x2), (3, .int x3)] := hl
    obtain ⟨hok, hin9, hw⟩ := hw
    refine q_iast B h dX5_wants_32 hok.1 hok.2 hin9 (fun H locs h9 => ?_)
    obtain ⟨S2, hS2, hh⟩ : ∃ z, z = sA S q3 x2.toNatClampNeg (15 : Int32) ∧ Hx D cs lo s z H _ := ⟨_, rfl, h9⟩
    clear h9
    replace h := hh
    clear hh
    replace hw := hw S2 hS2
    exact q_vret B hr hlk h hw dX5_wants_33 (Nat.le_of_ble_eq_true rfl) (Nat.le_of_ble_eq_true rfl)
set_option maxHeartbeats 4000000 in
set_option maxRecDepth 100000 in
theorem met_X5_isOff (l : Launch) (a0 : Nat) (x1 : Int32) (x2 : Int32) : MI l yX5_isOff cX5_isOff 3 (some .boolean) 2 42 0 0 [.ref a0, .int x1, .int x2] (wX5_isOff a0 x1 x2) := by
  refine MI.of (by decide) (Nat.le_of_ble_eq_true rfl) ?_
  intro p e s m below meth c D cs lo S Q ls B hr hlk hin
  intro h hl hw
  replace hl : lv_has ls 3 [(0, .ref a0), (1, .int x1), (2, .int x2)] := hl
  refine lv_iload_n B.1.1 B.1.2.1 dX5_isOff_0 rfl (lv_at hl 2 rfl) ?_
  refine q_callIS B h (met_X5_isRow l x2) (CB B 1 kC_X5_isRow kI_RX5 kM_RX5_81 hd_X5_isRow ⟨Nat.le_of_ble_eq_true rfl, Nat.le_of_ble_eq_true rfl⟩) kS_X5_isRow (rest := []) rfl rfl hl.1 (Nat.le_of_ble_eq_true rfl) dX5_isOff_1 ⟨Nat.le_of_ble_eq_true rfl, Nat.le_of_ble_eq_true rfl⟩ hw (fun r1 S1 H locs hw9 h9 => ?_)
  replace hw := hw9
  clear hw9
  replace h := h9
  clear h9
  refine lv_if_eq (tgt := 25) B.1.1 B.1.2.1 dX5_isOff_4 (by decide) (fun hc => ?_) (fun hc => ?_)
  · replace hw := hw.1 hc
    refine lv_iconst (v := (0 : Int32)) B.1.1 B.1.2.1 dX5_isOff_25 (by decide) ?_
    exact q_zret B hr hlk h (by decide) hw dX5_isOff_26 (Nat.le_of_ble_eq_true rfl) (Nat.le_of_ble_eq_true rfl)
  · replace hw := hw.2 hc
    refine lv_aload_n B.1.1 B.1.2.1 dX5_isOff_7 rfl (lv_at hl 0 rfl) ?_
    obtain ⟨hok, hw⟩ := hw
    refine q_getR B h (ci := 5) (j := 14) (code := 174) rfl inT_5 (by decide) kF_RX5_46 rfl rfl rfl (by decide) dX5_isOff_8 hok.1 hok.2 ?_
    obtain ⟨o1, hoo1⟩ : ∃ z, z = gR S1 174 a0 := ⟨_, rfl⟩
    rw [← hoo1]
    replace hw := hw o1 hoo1
    refine lv_bipush (v := (8 : Int32)) B.1.1 B.1.2.1 dX5_isOff_11 (by decide) ?_
    refine lv_iload_n B.1.1 B.1.2.1 dX5_isOff_13 rfl (lv_at hl 1 rfl) ?_
    refine lv_imul B.1.1 B.1.2.1 dX5_isOff_14 ?_
    refine lv_iload_n B.1.1 B.1.2.1 dX5_isOff_15 rfl (lv_at hl 2 rfl) ?_
    refine lv_iadd B.1.1 B.1.2.1 dX5_isOff_16 ?_
    obtain ⟨q1, hn, hw⟩ := hw
    subst hn
    replace hl : lv_has ls 3 [(0, .ref a0), (1, .int x1), (2, .int x2)] := hl
    obtain ⟨hok, hin9, hw⟩ := hw
    refine q_zald B h dX5_isOff_17 hok.1 hok.2 hin9 ?_
    refine lv_if_eq (tgt := 25) B.1.1 B.1.2.1 dX5_isOff_18 (by decide) (fun hc => ?_) (fun hc => ?_)
    · replace hw := hw.1 hc
      refine lv_iconst (v := (0 : Int32)) B.1.1 B.1.2.1 dX5_isOff_25 (by decide) ?_
      exact q_zret B hr hlk h (by decide) hw dX5_isOff_26 (Nat.le_of_ble_eq_true rfl) (Nat.le_of_ble_eq_true rfl)
    · replace hw := hw.2 hc
      refine lv_iconst (v := (1 : Int32)) B.1.1 B.1.2.1 dX5_isOff_21 (by decide) ?_
      refine lv_goto (tgt := 26) B.1.1 B.1.2.1 dX5_isOff_22 (by decide) ?_
      exact q_zret B hr hlk h (by decide) hw dX5_isOff_26 (Nat.le_of_ble_eq_true rfl) (Nat.le_of_ble_eq_true rfl)
set_option maxHeartbeats 4000000 in
set_option maxRecDepth 100000 in
theorem met_X5_nozzle (l : Launch) (a0 : Nat) (x1 : Int32) (x2 : Int32) : MI l yX5_nozzle cX5_nozzle 4 (some .int) 3 64 0 0 [.ref a0, .int x1, .int x2] (wX5_nozzle a0 x1 x2) := by
  refine MI.of (by decide) (Nat.le_of_ble_eq_true rfl) ?_
  intro p e s m below meth c D cs lo S Q ls B hr hlk hin
  have J74 : ∀ (v0 : Nat) (v1 : Int32) (t0 : Int32) (t1 : Int32) (S : HS) (H : Heap) (locs : List Loc) (ls : Array Slot), Hx D cs lo s S H locs → lv_has ls 4 [(0, .ref v0), (1, .int v1)] → wX5_nozzle_J74 v0 v1 t0 t1 S Q → W p l e ({ frames := 3, cells := 0, slots := 0, locals := 64 } : Room) s m [.ref a0, .int x1, .int x2].toArray below meth c H locs 0 0 (MQ below (va_Qi Q (fun S' t => hp D cs lo S' t.heap) (fun q => lo ≤ q)) [.ref a0, .int x1, .int x2].toArray s 0 0 (fun q => lo ≤ q)) (F0 m 74 ls [.int t0, .int t1]) := by
    intro v0 v1 t0 t1 S H locs ls h hl hw
    refine lv_iadd B.1.1 B.1.2.1 dX5_nozzle_74 ?_
    refine lv_istore_n (i := 3) (lv' := [(3, .int (t1 + t0)), (0, .ref v0), (1, .int v1)]) B.1.1 B.1.2.1 dX5_nozzle_75 rfl hl (by decide) rfl (fun ls hl9 => ?_)
    replace hl := hl9
    clear hl9
    refine lv_iload_n B.1.1 B.1.2.1 dX5_nozzle_76 rfl (lv_at hl 0 rfl) ?_
    refine lv_bipush (v := (15 : Int32)) B.1.1 B.1.2.1 dX5_nozzle_77 (by decide) ?_
    refine lv_icmp_le (tgt := 87) B.1.1 B.1.2.1 dX5_nozzle_79 (by decide) (fun hc => ?_) (fun hc => ?_)
    · replace hw := hw.1 hc
      refine lv_iload_n B.1.1 B.1.2.1 dX5_nozzle_87 rfl (lv_at hl 0 rfl) ?_
      refine lv_istore_n (i := 3) (lv' := [(3, .int (t1 + t0)), (0, .ref v0), (1, .int v1)]) B.1.1 B.1.2.1 dX5_nozzle_88 rfl hl (by decide) rfl (fun ls hl9 => ?_)
      replace hl := hl9
      clear hl9
      refine lv_iload_n B.1.1 B.1.2.1 dX5_nozzle_89 rfl (lv_at hl 0 rfl) ?_
      refine lv_aload_n B.1.1 B.1.2.1 dX5_nozzle_90 rfl (lv_at hl 1 rfl) ?_
      obtain ⟨hok, hw⟩ := hw
      refine q_getR B h (ci := 5) (j := 12) (code := 172) rfl inT_5 (by decide) kF_RX5_40 rfl rfl rfl (by decide) dX5_nozzle_91 hok.1 hok.2 ?_
      obtain ⟨o2, hoo2⟩ : ∃ z, z = gR S 172 v0 := ⟨_, rfl⟩
      rw [← hoo2]
      replace hw := hw o2 hoo2
      refine lv_iload_n B.1.1 B.1.2.1 dX5_nozzle_94 rfl (lv_at hl 2 rfl) ?_
      obtain ⟨q2, hn, hw⟩ := hw
      subst hn
      replace hl : lv_has ls 4 [(3, .int (t1 + t0)), (0, .ref v0), (1, .int v1)] := hl
      obtain ⟨hok, hin9, hw⟩ := hw
      refine q_iald B h dX5_nozzle_95 hok.1 hok.2 hin9 ?_
      refine lv_imul B.1.1 B.1.2.1 dX5_nozzle_96 ?_
      refine lv_bipush (v := (100 : Int32)) B.1.1 B.1.2.1 dX5_nozzle_97 (by decide) ?_
      refine lv_idiv B.1.1 B.1.2.1 dX5_nozzle_99 (by decide) ?_
      exact q_iret B hr hlk h hw dX5_nozzle_100 (Nat.le_of_ble_eq_true rfl) (Nat.le_of_ble_eq_true rfl)
    · replace hw := hw.2 hc
      refine lv_bipush (v := (15 : Int32)) B.1.1 B.1.2.1 dX5_nozzle_82 (by decide) ?_
      refine lv_goto (tgt := 88) B.1.1 B.1.2.1 dX5_nozzle_84 (by decide) ?_
      refine lv_istore_n (i := 3) (lv' := [(3, .int (15 : Int32)), (0, .ref v0), (1, .int v1)]) B.1.1 B.1.2.1 dX5_nozzle_88 rfl hl (by decide) rfl (fun ls hl9 => ?_)
      replace hl := hl9
      clear hl9
      refine lv_iload_n B.1.1 B.1.2.1 dX5_nozzle_89 rfl (lv_at hl 0 rfl) ?_
      refine lv_aload_n B.1.1 B.1.2.1 dX5_nozzle_90 rfl (lv_at hl 1 rfl) ?_
      obtain ⟨hok, hw⟩ := hw
      refine q_getR B h (ci := 5) (j := 12) (code := 172) rfl inT_5 (by decide) kF_RX5_40 rfl rfl rfl (by decide) dX5_nozzle_91 hok.1 hok.2 ?_
      obtain ⟨o3, hoo3⟩ : ∃ z, z = gR S 172 v0 := ⟨_, rfl⟩
      rw [← hoo3]
      replace hw := hw o3 hoo3
      refine lv_iload_n B.1.1 B.1.2.1 dX5_nozzle_94 rfl (lv_at hl 2 rfl) ?_
      obtain ⟨q3, hn, hw⟩ := hw
      subst hn
      replace hl : lv_has ls 4 [(3, .int (15 : Int32)), (0, .ref v0), (1, .int v1)] := hl
      obtain ⟨hok, hin9, hw⟩ := hw
      refine q_iald B h dX5_nozzle_95 hok.1 hok.2 hin9 ?_
      refine lv_imul B.1.1 B.1.2.1 dX5_nozzle_96 ?_
      refine lv_bipush (v := (100 : Int32)) B.1.1 B.1.2.1 dX5_nozzle_97 (by decide) ?_
      refine lv_idiv B.1.1 B.1.2.1 dX5_nozzle_99 (by decide) ?_
      exact q_iret B hr hlk h hw dX5_nozzle_100 (Nat.le_of_ble_eq_true rfl) (Nat.le_of_ble_eq_true rfl)
  have J46 : ∀ (v0 : Nat) (v1 : Int32) (v2 : Int32) (t0 : Int32) (t1 : Int32) (S : HS) (H : Heap) (locs : List Loc) (ls : Array Slot), Hx D cs lo s S H locs → lv_has ls 4 [(0, .ref v0), (1, .int v1), (2, .int v2)] → wX5_nozzle_J46 v0 v1 v2 t0 t1 S Q → W p l e ({ frames := 3, cells := 0, slots := 0, locals := 64 } : Room) s m [.ref a0, .int x1, .int x2].toArray below meth c H locs 0 0 (MQ below (va_Qi Q (fun S' t => hp D cs lo S' t.heap) (fun q => lo ≤ q)) [.ref a0, .int x1, .int x2].toArray s 0 0 (fun q => lo ≤ q)) (F0 m 46 ls [.int t0, .int t1]) := by
    intro v0 v1 v2 t0 t1 S H locs ls h hl hw
    refine lv_iadd B.1.1 B.1.2.1 dX5_nozzle_46 ?_
    refine lv_istore_n (i := 3) (lv' := [(3, .int (t1 + t0)), (0, .ref v0), (1, .int v1), (2, .int v2)]) B.1.1 B.1.2.1 dX5_nozzle_47 rfl hl (by decide) rfl (fun ls hl9 => ?_)
    replace hl := hl9
    clear hl9
    refine lv_iload_n B.1.1 B.1.2.1 dX5_nozzle_48 rfl (lv_at hl 0 rfl) ?_
    refine lv_aload_n B.1.1 B.1.2.1 dX5_nozzle_49 rfl (lv_at hl 1 rfl) ?_
    refine lv_iload_n B.1.1 B.1.2.1 dX5_nozzle_50 rfl (lv_at hl 2 rfl) ?_
    refine lv_iload_n B.1.1 B.1.2.1 dX5_nozzle_51 rfl (lv_at hl 3 rfl) ?_
    refine lv_iconst (v := (1 : Int32)) B.1.1 B.1.2.1 dX5_nozzle_52 (by decide) ?_
    refine lv_isub B.1.1 B.1.2.1 dX5_nozzle_53 ?_
    obtain ⟨hok, hw⟩ := hw
    refine q_callIV B h (met_X5_isOff l v0 v1 (v2 - (1 : Int32))) (CB B 2 kC_X5_isOff kI_RX5 kM_RX5_118 hd_X5_isOff ⟨Nat.le_of_ble_eq_true rfl, Nat.le_of_ble_eq_true rfl⟩) kO_X5_isOff kV_X5_isOff (ci := 5) rfl (by decide) hok.1 hok.2 (rest := [.int (t1 + t0)]) rfl rfl hl.1 (Nat.le_of_ble_eq_true rfl) dX5_nozzle_54 ⟨Nat.le_of_ble_eq_true rfl, Nat.le_of_ble_eq_true rfl⟩ hw (fun r3 S3 H locs hw9 h9 => ?_)
    replace hw := hw9
    clear hw9
    replace h := h9
    clear h9
    refine lv_if_eq (tgt := 73) B.1.1 B.1.2.1 dX5_nozzle_57 (by decide) (fun hc => ?_) (fun hc => ?_)
    · replace hw := hw.1 hc
      refine lv_iconst (v := (0 : Int32)) B.1.1 B.1.2.1 dX5_nozzle_73 (by decide) ?_
      exact J74 v0 v1 (0 : Int32) (t1 + t0) _ _ _ ls h (lv_sub hl [1, 2] rfl) hw
    · replace hw := hw.2 hc
      refine lv_aload_n B.1.1 B.1.2.1 dX5_nozzle_60 rfl (lv_at hl 1 rfl) ?_
      obtain ⟨hok, hw⟩ := hw
      refine q_getR B h (ci := 5) (j := 18) (code := 178) rfl inT_5 (by decide) kF_RX5_59 rfl rfl rfl (by decide) dX5_nozzle_61 hok.1 hok.2 ?_
      obtain ⟨o4, hoo4⟩ : ∃ z, z = gR S3 178 v0 := ⟨_, rfl⟩
      rw [← hoo4]
      replace hw := hw o4 hoo4
      refine lv_iload_n B.1.1 B.1.2.1 dX5_nozzle_64 rfl (lv_at hl 3 rfl) ?_
      refine lv_iconst (v := (1 : Int32)) B.1.1 B.1.2.1 dX5_nozzle_65 (by decide) ?_
      refine lv_isub B.1.1 B.1.2.1 dX5_nozzle_66 ?_
      obtain ⟨q4, hn, hw⟩ := hw
      subst hn
      replace hl : lv_has ls 4 [(3, .int (t1 + t0)), (0, .ref v0), (1, .int v1), (2, .int v2)] := hl
      obtain ⟨hok, hin9, hw⟩ := hw
      refine q_iald B h dX5_nozzle_67 hok.1 hok.2 hin9 ?_
      refine lv_iconst (v := (2 : Int32)) B.1.1 B.1.2.1 dX5_nozzle_68 (by decide) ?_
      refine lv_idiv B.1.1 B.1.2.1 dX5_nozzle_69 (by decide) ?_
      refine lv_goto (tgt := 74) B.1.1 B.1.2.1 dX5_nozzle_70 (by decide) ?_
      exact J74 v0 v1 ((gA S3 q4 (v2 - (1 : Int32)).toNatClampNeg) / (2 : Int32)) (t1 + t0) _ _ _ ls h (lv_sub hl [1, 2] rfl) hw
  intro h hl hw
  replace hl : lv_has ls 4 [(0, .ref a0), (1, .int x1), (2, .int x2)] := hl
  refine lv_aload_n B.1.1 B.1.2.1 dX5_nozzle_0 rfl (lv_at hl 0 rfl) ?_
  refine lv_iload_n B.1.1 B.1.2.1 dX5_nozzle_1 rfl (lv_at hl 1 rfl) ?_
  refine lv_iload_n B.1.1 B.1.2.1 dX5_nozzle_2 rfl (lv_at hl 2 rfl) ?_
  obtain ⟨hok, hw⟩ := hw
  refine q_callIV B h (met_X5_isOff l a0 x1 x2) (CB B 2 kC_X5_isOff kI_RX5 kM_RX5_118 hd_X5_isOff ⟨Nat.le_of_ble_eq_true rfl, Nat.le_of_ble_eq_true rfl⟩) kO_X5_isOff kV_X5_isOff (ci := 5) rfl (by decide) hok.1 hok.2 (rest := []) rfl rfl hl.1 (Nat.le_of_ble_eq_true rfl) dX5_nozzle_3 ⟨Nat.le_of_ble_eq_true rfl, Nat.le_of_ble_eq_true rfl⟩ hw (fun r1 S1 H locs hw9 h9 => ?_)
  replace hw := hw9
  clear hw9
  replace h := h9
  clear h9
  refine lv_if_eq (tgt := 11) B.1.1 B.1.2.1 dX5_nozzle_6 (by decide) (fun hc => ?_) (fun hc => ?_)
  · replace hw := hw.1 hc
    refine lv_aload_n B.1.1 B.1.2.1 dX5_nozzle_11 rfl (lv_at hl 0 rfl) ?_
    obtain ⟨hok, hw⟩ := hw
    refine q_getR B h (ci := 5) (j := 18) (code := 178) rfl inT_5 (by decide) kF_RX5_59 rfl rfl rfl (by decide) dX5_nozzle_12 hok.1 hok.2 ?_
    obtain ⟨o1, hoo1⟩ : ∃ z, z = gR S1 178 a0 := ⟨_, rfl⟩
    rw [← hoo1]
    replace hw := hw o1 hoo1
    refine lv_iload_n B.1.1 B.1.2.1 dX5_nozzle_15 rfl (lv_at hl 2 rfl) ?_
    obtain ⟨q1, hn, hw⟩ := hw
    subst hn
    replace hl : lv_has ls 4 [(0, .ref a0), (1, .int x1), (2, .int x2)] := hl
    obtain ⟨hok, hin9, hw⟩ := hw
    refine q_iald B h dX5_nozzle_16 hok.1 hok.2 hin9 ?_
    refine lv_istore_n (i := 3) (lv' := [(3, .int (gA S1 q1 x2.toNatClampNeg)), (0, .ref a0), (1, .int x1), (2, .int x2)]) B.1.1 B.1.2.1 dX5_nozzle_17 rfl hl (by decide) rfl (fun ls hl9 => ?_)
    replace hl := hl9
    clear hl9
    refine lv_iload_n B.1.1 B.1.2.1 dX5_nozzle_18 rfl (lv_at hl 0 rfl) ?_
    refine lv_aload_n B.1.1 B.1.2.1 dX5_nozzle_19 rfl (lv_at hl 1 rfl) ?_
    refine lv_iload_n B.1.1 B.1.2.1 dX5_nozzle_20 rfl (lv_at hl 2 rfl) ?_
    refine lv_iload_n B.1.1 B.1.2.1 dX5_nozzle_21 rfl (lv_at hl 3 rfl) ?_
    refine lv_iconst (v := (1 : Int32)) B.1.1 B.1.2.1 dX5_nozzle_22 (by decide) ?_
    refine lv_iadd B.1.1 B.1.2.1 dX5_nozzle_23 ?_
    obtain ⟨hok, hw⟩ := hw
    refine q_callIV B h (met_X5_isOff l a0 x1 (x2 + (1 : Int32))) (CB B 2 kC_X5_isOff kI_RX5 kM_RX5_118 hd_X5_isOff ⟨Nat.le_of_ble_eq_true rfl, Nat.le_of_ble_eq_true rfl⟩) kO_X5_isOff kV_X5_isOff (ci := 5) rfl (by decide) hok.1 hok.2 (rest := [.int (gA S1 q1 x2.toNatClampNeg)]) rfl rfl hl.1 (Nat.le_of_ble_eq_true rfl) dX5_nozzle_24 ⟨Nat.le_of_ble_eq_true rfl, Nat.le_of_ble_eq_true rfl⟩ hw (fun r2 S2 H locs hw9 h9 => ?_)
    replace hw := hw9
    clear hw9
    replace h := h9
    clear h9
    refine lv_if_eq (tgt := 45) B.1.1 B.1.2.1 dX5_nozzle_27 (by decide) (fun hc => ?_) (fun hc => ?_)
    · replace hw := hw.1 hc
      refine lv_iconst (v := (0 : Int32)) B.1.1 B.1.2.1 dX5_nozzle_45 (by decide) ?_
      exact J46 a0 x1 x2 (0 : Int32) (gA S1 q1 x2.toNatClampNeg) _ _ _ ls h (lv_sub hl [1, 2, 3] rfl) hw
    · replace hw := hw.2 hc
      refine lv_aload_n B.1.1 B.1.2.1 dX5_nozzle_30 rfl (lv_at hl 1 rfl) ?_
      obtain ⟨hok, hw⟩ := hw
      refine q_getR B h (ci := 5) (j := 18) (code := 178) rfl inT_5 (by decide) kF_RX5_59 rfl rfl rfl (by decide) dX5_nozzle_31 hok.1 hok.2 ?_
      obtain ⟨o5, hoo5⟩ : ∃ z, z = gR S2 178 a0 := ⟨_, rfl⟩
      rw [← hoo5]
      replace hw := hw o5 hoo5
      refine lv_iload_n B.1.1 B.1.2.1 dX5_nozzle_34 rfl (lv_at hl 3 rfl) ?_
      refine lv_iconst (v := (1 : Int32)) B.1.1 B.1.2.1 dX5_nozzle_35 (by decide) ?_
      refine lv_iadd B.1.1 B.1.2.1 dX5_nozzle_36 ?_
      obtain ⟨q5, hn, hw⟩ := hw
      subst hn
      replace hl : lv_has ls 4 [(3, .int (gA S1 q1 x2.toNatClampNeg)), (0, .ref a0), (1, .int x1), (2, .int x2)] := hl
      obtain ⟨hok, hin9, hw⟩ := hw
      refine q_iald B h dX5_nozzle_37 hok.1 hok.2 hin9 ?_
      refine lv_iconst (v := (1 : Int32)) B.1.1 B.1.2.1 dX5_nozzle_38 (by decide) ?_
      refine lv_iadd B.1.1 B.1.2.1 dX5_nozzle_39 ?_
      refine lv_iconst (v := (2 : Int32)) B.1.1 B.1.2.1 dX5_nozzle_40 (by decide) ?_
      refine lv_idiv B.1.1 B.1.2.1 dX5_nozzle_41 (by decide) ?_
      refine lv_goto (tgt := 46) B.1.1 B.1.2.1 dX5_nozzle_42 (by decide) ?_
      exact J46 a0 x1 x2 (((gA S2 q5 (x2 + (1 : Int32)).toNatClampNeg) + (1 : Int32)) / (2 : Int32)) (gA S1 q1 x2.toNatClampNeg) _ _ _ ls h (lv_sub hl [1, 2, 3] rfl) hw
  · replace hw := hw.2 hc
    refine lv_iconst (v := (0 : Int32)) B.1.1 B.1.2.1 dX5_nozzle_9 (by decide) ?_
    exact q_iret B hr hlk h hw dX5_nozzle_10 (Nat.le_of_ble_eq_true rfl) (Nat.le_of_ble_eq_true rfl)
set_option maxHeartbeats 4000000 in
set_option maxRecDepth 100000 in
theorem met_X5_isPrinting (l : Launch) (a0 : Nat) (x1 : Int32) : MI l yX5_isPrinting cX5_isPrinting 4 (some .boolean) 0 0 0 0 [.ref a0, .int x1] (wX5_isPrinting a0 x1) := by
  refine MI.of (by decide) (Nat.le_of_ble_eq_true rfl) ?_
  intro p e s m below meth c D cs lo S Q ls B hr hlk hin
  have L4 : ∀ (c0 : Nat) (c1 : Int32) (K : Int32 → Int32 → HS → Prop) (n : Nat) (m2 : Int32) (m3 : Int32) (S : HS) (H : Heap) (locs : List Loc) (ls : Array Slot), Hx D cs lo s S H locs → lv_has ls 4 [(0, .ref c0), (1, .int c1), (2, .int m2), (3, .int m3)] → wX5_isPrinting_L4 c0 c1 n m2 m3 S K → (∀ (m2 : Int32) (m3 : Int32) (S : HS) (H : Heap) (locs : List Loc) (ls : Array Slot), Hx D cs lo s S H locs → lv_has ls 4 [(0, .ref c0), (1, .int c1), (2, .int m2), (3, .int m3)] → K m2 m3 S → W p l e ({ frames := 0, cells := 0, slots := 0, locals := 0 } : Room) s m [.ref a0, .int x1].toArray below meth c H locs 0 0 (MQ below (va_Qi Q (fun S' t => hp D cs lo S' t.heap) (fun q => lo ≤ q)) [.ref a0, .int x1].toArray s 0 0 (fun q => lo ≤ q)) (F0 m 35 ls [])) → W p l e ({ frames := 0, cells := 0, slots := 0, locals := 0 } : Room) s m [.ref a0, .int x1].toArray below meth c H locs 0 0 (MQ below (va_Qi Q (fun S' t => hp D cs lo S' t.heap) (fun q => lo ≤ q)) [.ref a0, .int x1].toArray s 0 0 (fun q => lo ≤ q)) (F0 m 4 ls []) := by
    intro c0 c1 K n
    induction n with
    | zero => intro m2 m3 S H locs ls h hl hw hk; exact False.elim hw
    | succ n ih =>
      intro m2 m3 S H locs ls h hl hw hk
      refine lv_iload_n B.1.1 B.1.2.1 dX5_isPrinting_4 rfl (lv_at hl 3 rfl) ?_
      refine lv_iconst (v := (3 : Int32)) B.1.1 B.1.2.1 dX5_isPrinting_5 (by decide) ?_
      refine lv_icmp_ge (tgt := 35) B.1.1 B.1.2.1 dX5_isPrinting_6 (by decide) (fun hc => ?_) (fun hc => ?_)
      · replace hw := hw.1 hc
        exact hk m2 m3 _ _ _ ls h (lv_sub hl [0, 1, 2, 3] rfl) hw
      · replace hw := hw.2 hc
        refine lv_iload_n B.1.1 B.1.2.1 dX5_isPrinting_9 rfl (lv_at hl 2 rfl) ?_
        refine lv_if_ne (tgt := 23) B.1.1 B.1.2.1 dX5_isPrinting_10 (by decide) (fun hc => ?_) (fun hc => ?_)
        · replace hw := hw.1 hc
          refine lv_iconst (v := (1 : Int32)) B.1.1 B.1.2.1 dX5_isPrinting_23 (by decide) ?_
          refine lv_goto (tgt := 28) B.1.1 B.1.2.1 dX5_isPrinting_24 (by decide) ?_
          refine lv_istore_n (i := 2) (lv' := [(2, .int (1 : Int32)), (0, .ref c0), (1, .int c1), (3, .int m3)]) B.1.1 B.1.2.1 dX5_isPrinting_28 rfl hl (by decide) rfl (fun ls hl9 => ?_)
          replace hl := hl9
          clear hl9
          refine lv_iinc (i := 3) (v := (m3 + (1 : Int32))) (lv' := [(3, .int (m3 + (1 : Int32))), (2, .int (1 : Int32)), (0, .ref c0), (1, .int c1)]) B.1.1 B.1.2.1 dX5_isPrinting_29 hl (k := 3) rfl rfl (by decide) rfl (fun ls hl9 => ?_)
          replace hl := hl9
          clear hl9
          refine lv_goto (tgt := 4) B.1.1 B.1.2.1 dX5_isPrinting_32 (by decide) ?_
          exact ih (1 : Int32) (m3 + (1 : Int32)) _ _ _ ls h (lv_sub hl [2, 3, 1, 0] rfl) hw hk
        · replace hw := hw.2 hc
          refine lv_aload_n B.1.1 B.1.2.1 dX5_isPrinting_13 rfl (lv_at hl 0 rfl) ?_
          obtain ⟨hok, hw⟩ := hw
          refine q_getR B h (ci := 5) (j := 16) (code := 176) rfl inT_5 (by decide) kF_RX5_53 rfl rfl rfl (by decide) dX5_isPrinting_14 hok.1 hok.2 ?_
          obtain ⟨o1, hoo1⟩ : ∃ z, z = gR S 176 c0 := ⟨_, rfl⟩
          rw [← hoo1]
          replace hw := hw o1 hoo1
          refine lv_iload_n B.1.1 B.1.2.1 dX5_isPrinting_17 rfl (lv_at hl 3 rfl) ?_
          obtain ⟨q1, hn, hw⟩ := hw
          subst hn
          replace hl : lv_has ls 4 [(0, .ref c0), (1, .int c1), (2, .int m2), (3, .int m3)] := hl
          obtain ⟨hok, hin9, hw⟩ := hw
          refine q_iald B h dX5_isPrinting_18 hok.1 hok.2 hin9 ?_
          refine lv_iload_n B.1.1 B.1.2.1 dX5_isPrinting_19 rfl (lv_at hl 1 rfl) ?_
          refine lv_icmp_ne (tgt := 27) B.1.1 B.1.2.1 dX5_isPrinting_20 (by decide) (fun hc => ?_) (fun hc => ?_)
          · replace hw := hw.1 hc
            refine lv_iconst (v := (0 : Int32)) B.1.1 B.1.2.1 dX5_isPrinting_27 (by decide) ?_
            refine lv_istore_n (i := 2) (lv' := [(2, .int (0 : Int32)), (0, .ref c0), (1, .int c1), (3, .int m3)]) B.1.1 B.1.2.1 dX5_isPrinting_28 rfl hl (by decide) rfl (fun ls hl9 => ?_)
            replace hl := hl9
            clear hl9
            refine lv_iinc (i := 3) (v := (m3 + (1 : Int32))) (lv' := [(3, .int (m3 + (1 : Int32))), (2, .int (0 : Int32)), (0, .ref c0), (1, .int c1)]) B.1.1 B.1.2.1 dX5_isPrinting_29 hl (k := 3) rfl rfl (by decide) rfl (fun ls hl9 => ?_)
            replace hl := hl9
            clear hl9
            refine lv_goto (tgt := 4) B.1.1 B.1.2.1 dX5_isPrinting_32 (by decide) ?_
            exact ih (0 : Int32) (m3 + (1 : Int32)) _ _ _ ls h (lv_sub hl [2, 3, 1, 0] rfl) hw hk
          · replace hw := hw.2 hc
            refine lv_iconst (v := (1 : Int32)) B.1.1 B.1.2.1 dX5_isPrinting_23 (by decide) ?_
            refine lv_goto (tgt := 28) B.1.1 B.1.2.1 dX5_isPrinting_24 (by decide) ?_
            refine lv_istore_n (i := 2) (lv' := [(2, .int (1 : Int32)), (0, .ref c0), (1, .int c1), (3, .int m3)]) B.1.1 B.1.2.1 dX5_isPrinting_28 rfl hl (by decide) rfl (fun ls hl9 => ?_)
            replace hl := hl9
            clear hl9
            refine lv_iinc (i := 3) (v := (m3 + (1 : Int32))) (lv' := [(3, .int (m3 + (1 : Int32))), (2, .int (1 : Int32)), (0, .ref c0), (1, .int c1)]) B.1.1 B.1.2.1 dX5_isPrinting_29 hl (k := 3) rfl rfl (by decide) rfl (fun ls hl9 => ?_)
            replace hl := hl9
            clear hl9
            refine lv_goto (tgt := 4) B.1.1 B.1.2.1 dX5_isPrinting_32 (by decide) ?_
            exact ih (1 : Int32) (m3 + (1 : Int32)) _ _ _ ls h (lv_sub hl [2, 3, 1, 0] rfl) hw hk
  intro h hl hw
  replace hl : lv_has ls 4 [(0, .ref a0), (1, .int x1)] := hl
  refine lv_iconst (v := (0 : Int32)) B.1.1 B.1.2.1 dX5_isPrinting_0 (by decide) ?_
  refine lv_istore_n (i := 2) (lv' := [(2, .int (0 : Int32)), (0, .ref a0), (1, .int x1)]) B.1.1 B.1.2.1 dX5_isPrinting_1 rfl hl (by decide) rfl (fun ls hl9 => ?_)
  replace hl := hl9
  clear hl9
  refine lv_iconst (v := (0 : Int32)) B.1.1 B.1.2.1 dX5_isPrinting_2 (by decide) ?_
  refine lv_istore_n (i := 3) (lv' := [(3, .int (0 : Int32)), (2, .int (0 : Int32)), (0, .ref a0), (1, .int x1)]) B.1.1 B.1.2.1 dX5_isPrinting_3 rfl hl (by decide) rfl (fun ls hl9 => ?_)
  replace hl := hl9
  clear hl9
  obtain ⟨n1, hw⟩ := hw
  refine L4 a0 x1 _ n1 (0 : Int32) (0 : Int32) _ _ _ ls h (lv_sub hl [2, 3, 1, 0] rfl) hw (fun u1 u2 S1 H locs ls h9 hl9 hw9 => ?_)
  replace hw := hw9
  clear hw9
  replace h := h9
  clear h9
  replace hl := hl9
  clear hl9
  refine lv_iload_n B.1.1 B.1.2.1 dX5_isPrinting_35 rfl (lv_at hl 2 rfl) ?_
  exact q_zret B hr hlk h hw.1 hw.2 dX5_isPrinting_36 (Nat.le_of_ble_eq_true rfl) (Nat.le_of_ble_eq_true rfl)
set_option maxHeartbeats 4000000 in
set_option maxRecDepth 100000 in
theorem met_X5_takes (l : Launch) (a0 : Nat) (x1 : Int32) : MV l yX5_takes cX5_takes 5 none 2 45 0 0 [.ref a0, .int x1] (wX5_takes a0 x1) := by
  refine MV.of (by decide) (Nat.le_of_ble_eq_true rfl) ?_
  intro p e s m below meth c D cs lo S Q ls B hr hlk hin
  have L4 : ∀ (c0 : Nat) (c1 : Int32) (K : Int32 → Int32 → HS → Prop) (n : Nat) (m2 : Int32) (m3 : Int32) (S : HS) (H : Heap) (locs : List Loc) (ls : Array Slot), Hx D cs lo s S H locs → lv_has ls 5 [(0, .ref c0), (1, .int c1), (2, .int m2), (3, .int m3)] → wX5_takes_L4 c0 c1 n m2 m3 S K → (∀ (m2 : Int32) (m3 : Int32) (S : HS) (H : Heap) (locs : List Loc) (ls : Array Slot), Hx D cs lo s S H locs → lv_has ls 5 [(0, .ref c0), (1, .int c1), (2, .int m2), (3, .int m3)] → K m2 m3 S → W p l e ({ frames := 2, cells := 0, slots := 0, locals := 45 } : Room) s m [.ref a0, .int x1].toArray below meth c H locs 0 0 (MQ below (va_Qv Q (fun S' t => hp D cs lo S' t.heap) (fun q => lo ≤ q)) [.ref a0, .int x1].toArray s 0 0 (fun q => lo ≤ q)) (F0 m 70 ls [])) → W p l e ({ frames := 2, cells := 0, slots := 0, locals := 45 } : Room) s m [.ref a0, .int x1].toArray below meth c H locs 0 0 (MQ below (va_Qv Q (fun S' t => hp D cs lo S' t.heap) (fun q => lo ≤ q)) [.ref a0, .int x1].toArray s 0 0 (fun q => lo ≤ q)) (F0 m 4 ls []) := by
    intro c0 c1 K n
    induction n with
    | zero => intro m2 m3 S H locs ls h hl hw hk; exact False.elim hw
    | succ n ih =>
      intro m2 m3 S H locs ls h hl hw hk
      refine lv_iload_n B.1.1 B.1.2.1 dX5_takes_4 rfl (lv_at hl 3 rfl) ?_
      refine lv_bipush (v := (80 : Int32)) B.1.1 B.1.2.1 dX5_takes_5 (by decide) ?_
      refine lv_icmp_ge (tgt := 70) B.1.1 B.1.2.1 dX5_takes_7 (by decide) (fun hc => ?_) (fun hc => ?_)
      · replace hw := hw.1 hc
        exact hk m2 m3 _ _ _ ls h (lv_sub hl [0, 1, 2, 3] rfl) hw
      · replace hw := hw.2 hc
        refine lv_aload_n B.1.1 B.1.2.1 dX5_takes_10 rfl (lv_at hl 0 rfl) ?_
        obtain ⟨hok, hw⟩ := hw
        refine q_getR B h (ci := 5) (j := 9) (code := 169) rfl inT_5 (by decide) kF_RX5_31 rfl rfl rfl (by decide) dX5_takes_11 hok.1 hok.2 ?_
        obtain ⟨o1, hoo1⟩ : ∃ z, z = gR S 169 c0 := ⟨_, rfl⟩
        rw [← hoo1]
        replace hw := hw o1 hoo1
        refine lv_iload_n B.1.1 B.1.2.1 dX5_takes_14 rfl (lv_at hl 3 rfl) ?_
        obtain ⟨q1, hn, hw⟩ := hw
        subst hn
        replace hl : lv_has ls 5 [(0, .ref c0), (1, .int c1), (2, .int m2), (3, .int m3)] := hl
        obtain ⟨hok, hin9, hw⟩ := hw
        refine q_iald B h dX5_takes_15 hok.1 hok.2 hin9 ?_
        refine lv_iload_n B.1.1 B.1.2.1 dX5_takes_16 rfl (lv_at hl 1 rfl) ?_
        refine lv_icmp_ne (tgt := 50) B.1.1 B.1.2.1 dX5_takes_17 (by decide) (fun hc => ?_) (fun hc => ?_)
        · replace hw := hw.1 hc
          refine lv_iconst (v := (0 : Int32)) B.1.1 B.1.2.1 dX5_takes_50 (by decide) ?_
          refine lv_istore (i := 4) (lv' := [(4, .int (0 : Int32)), (0, .ref c0), (1, .int c1), (2, .int m2), (3, .int m3)]) B.1.1 B.1.2.1 dX5_takes_51 hl (by decide) rfl (fun ls hl9 => ?_)
          replace hl := hl9
          clear hl9
          refine lv_iload B.1.1 B.1.2.1 dX5_takes_53 (lv_at hl 0 rfl) ?_
          refine lv_if_eq (tgt := 62) B.1.1 B.1.2.1 dX5_takes_55 (by decide) (fun _ => ?_) (fun hc => absurd hc (by decide))
          refine lv_iload_n B.1.1 B.1.2.1 dX5_takes_62 rfl (lv_at hl 3 rfl) ?_
          refine lv_istore_n (i := 2) (lv' := [(2, .int m2), (4, .int (0 : Int32)), (0, .ref c0), (1, .int c1), (3, .int m3)]) B.1.1 B.1.2.1 dX5_takes_63 rfl hl (by decide) rfl (fun ls hl9 => ?_)
          replace hl := hl9
          clear hl9
          refine lv_iinc (i := 3) (v := (m3 + (1 : Int32))) (lv' := [(3, .int (m3 + (1 : Int32))), (2, .int m2), (4, .int (0 : Int32)), (0, .ref c0), (1, .int c1)]) B.1.1 B.1.2.1 dX5_takes_64 hl (k := 4) rfl rfl (by decide) rfl (fun ls hl9 => ?_)
          replace hl := hl9
          clear hl9
          refine lv_goto (tgt := 4) B.1.1 B.1.2.1 dX5_takes_67 (by decide) ?_
          exact ih m2 (m3 + (1 : Int32)) _ _ _ ls h (lv_sub hl [3, 4, 1, 0] rfl) hw hk
        · replace hw := hw.2 hc
          refine lv_iload_n B.1.1 B.1.2.1 dX5_takes_20 rfl (lv_at hl 2 rfl) ?_
          refine lv_iconst (v := (-1 : Int32)) B.1.1 B.1.2.1 dX5_takes_21 (by decide) ?_
          refine lv_icmp_eq (tgt := 46) B.1.1 B.1.2.1 dX5_takes_22 (by decide) (fun hc => ?_) (fun hc => ?_)
          · replace hw := hw.1 hc
            refine lv_iconst (v := (1 : Int32)) B.1.1 B.1.2.1 dX5_takes_46 (by decide) ?_
            refine lv_goto (tgt := 51) B.1.1 B.1.2.1 dX5_takes_47 (by decide) ?_
            refine lv_istore (i := 4) (lv' := [(4, .int (1 : Int32)), (0, .ref c0), (1, .int c1), (2, .int m2), (3, .int m3)]) B.1.1 B.1.2.1 dX5_takes_51 hl (by decide) rfl (fun ls hl9 => ?_)
            replace hl := hl9
            clear hl9
            refine lv_iload B.1.1 B.1.2.1 dX5_takes_53 (lv_at hl 0 rfl) ?_
            refine lv_if_eq (tgt := 62) B.1.1 B.1.2.1 dX5_takes_55 (by decide) (fun hc => absurd hc (by decide)) (fun _ => ?_)
            refine lv_iload_n B.1.1 B.1.2.1 dX5_takes_58 rfl (lv_at hl 4 rfl) ?_
            refine lv_goto (tgt := 63) B.1.1 B.1.2.1 dX5_takes_59 (by decide) ?_
            refine lv_istore_n (i := 2) (lv' := [(2, .int m3), (4, .int (1 : Int32)), (0, .ref c0), (1, .int c1), (3, .int m3)]) B.1.1 B.1.2.1 dX5_takes_63 rfl hl (by decide) rfl (fun ls hl9 => ?_)
            replace hl := hl9
            clear hl9
            refine lv_iinc (i := 3) (v := (m3 + (1 : Int32))) (lv' := [(3, .int (m3 + (1 : Int32))), (2, .int m3), (4, .int (1 : Int32)), (0, .ref c0), (1, .int c1)]) B.1.1 B.1.2.1 dX5_takes_64 hl (k := 4) rfl rfl (by decide) rfl (fun ls hl9 => ?_)
            replace hl := hl9
            clear hl9
            refine lv_goto (tgt := 4) B.1.1 B.1.2.1 dX5_takes_67 (by decide) ?_
            exact ih m3 (m3 + (1 : Int32)) _ _ _ ls h (lv_sub hl [3, 4, 1, 0] rfl) hw hk
          · replace hw := hw.2 hc
            refine lv_aload_n B.1.1 B.1.2.1 dX5_takes_25 rfl (lv_at hl 0 rfl) ?_
            obtain ⟨hok, hw⟩ := hw
            refine q_getR B h (ci := 5) (j := 6) (code := 166) rfl inT_5 (by decide) kF_RX5_22 rfl rfl rfl (by decide) dX5_takes_26 hok.1 hok.2 ?_
            obtain ⟨o2, hoo2⟩ : ∃ z, z = gR S 166 c0 := ⟨_, rfl⟩
            rw [← hoo2]
            replace hw := hw o2 hoo2
            refine lv_iload_n B.1.1 B.1.2.1 dX5_takes_29 rfl (lv_at hl 3 rfl) ?_
            refine lv_bipush (v := (16 : Int32)) B.1.1 B.1.2.1 dX5_takes_30 (by decide) ?_
            refine lv_idiv B.1.1 B.1.2.1 dX5_takes_32 (by decide) ?_
            obtain ⟨q2, hn, hw⟩ := hw
            subst hn
            replace hl : lv_has ls 5 [(0, .ref c0), (1, .int c1), (2, .int m2), (3, .int m3)] := hl
            obtain ⟨hok, hin9, hw⟩ := hw
            refine q_iald B h dX5_takes_33 hok.1 hok.2 hin9 ?_
            refine lv_aload_n B.1.1 B.1.2.1 dX5_takes_34 rfl (lv_at hl 0 rfl) ?_
            obtain ⟨hok, hw⟩ := hw
            refine q_getR B h (ci := 5) (j := 6) (code := 166) rfl inT_5 (by decide) kF_RX5_22 rfl rfl rfl (by decide) dX5_takes_35 hok.1 hok.2 ?_
            obtain ⟨o3, hoo3⟩ : ∃ z, z = gR S 166 c0 := ⟨_, rfl⟩
            rw [← hoo3]
            replace hw := hw o3 hoo3
            refine lv_iload_n B.1.1 B.1.2.1 dX5_takes_38 rfl (lv_at hl 2 rfl) ?_
            refine lv_bipush (v := (16 : Int32)) B.1.1 B.1.2.1 dX5_takes_39 (by decide) ?_
            refine lv_idiv B.1.1 B.1.2.1 dX5_takes_41 (by decide) ?_
            obtain ⟨q3, hn, hw⟩ := hw
            subst hn
            replace hl : lv_has ls 5 [(0, .ref c0), (1, .int c1), (2, .int m2), (3, .int m3)] := hl
            obtain ⟨hok, hin9, hw⟩ := hw
            refine q_iald B h dX5_takes_42 hok.1 hok.2 hin9 ?_
            refine lv_icmp_ge (tgt := 50) B.1.1 B.1.2.1 dX5_takes_43 (by decide) (fun hc => ?_) (fun hc => ?_)
            · replace hw := hw.1 hc
              refine lv_iconst (v := (0 : Int32)) B.1.1 B.1.2.1 dX5_takes_50 (by decide) ?_
              refine lv_istore (i := 4) (lv' := [(4, .int (0 : Int32)), (0, .ref c0), (1, .int c1), (2, .int m2), (3, .int m3)]) B.1.1 B.1.2.1 dX5_takes_51 hl (by decide) rfl (fun ls hl9 => ?_)
              replace hl := hl9
              clear hl9
              refine lv_iload B.1.1 B.1.2.1 dX5_takes_53 (lv_at hl 0 rfl) ?_
              refine lv_if_eq (tgt := 62) B.1.1 B.1.2.1 dX5_takes_55 (by decide) (fun _ => ?_) (fun hc => absurd hc (by decide))
              refine lv_iload_n B.1.1 B.1.2.1 dX5_takes_62 rfl (lv_at hl 3 rfl) ?_
              refine lv_istore_n (i := 2) (lv' := [(2, .int m2), (4, .int (0 : Int32)), (0, .ref c0), (1, .int c1), (3, .int m3)]) B.1.1 B.1.2.1 dX5_takes_63 rfl hl (by decide) rfl (fun ls hl9 => ?_)
              replace hl := hl9
              clear hl9
              refine lv_iinc (i := 3) (v := (m3 + (1 : Int32))) (lv' := [(3, .int (m3 + (1 : Int32))), (2, .int m2), (4, .int (0 : Int32)), (0, .ref c0), (1, .int c1)]) B.1.1 B.1.2.1 dX5_takes_64 hl (k := 4) rfl rfl (by decide) rfl (fun ls hl9 => ?_)
              replace hl := hl9
              clear hl9
              refine lv_goto (tgt := 4) B.1.1 B.1.2.1 dX5_takes_67 (by decide) ?_
              exact ih m2 (m3 + (1 : Int32)) _ _ _ ls h (lv_sub hl [3, 4, 1, 0] rfl) hw hk
            · replace hw := hw.2 hc
              refine lv_iconst (v := (1 : Int32)) B.1.1 B.1.2.1 dX5_takes_46 (by decide) ?_
              refine lv_goto (tgt := 51) B.1.1 B.1.2.1 dX5_takes_47 (by decide) ?_
              refine lv_istore (i := 4) (lv' := [(4, .int (1 : Int32)), (0, .ref c0), (1, .int c1), (2, .int m2), (3, .int m3)]) B.1.1 B.1.2.1 dX5_takes_51 hl (by decide) rfl (fun ls hl9 => ?_)
              replace hl := hl9
              clear hl9
              refine lv_iload B.1.1 B.1.2.1 dX5_takes_53 (lv_at hl 0 rfl) ?_
              refine lv_if_eq (tgt := 62) B.1.1 B.1.2.1 dX5_takes_55 (by decide) (fun hc => absurd hc (by decide)) (fun _ => ?_)
              refine lv_iload_n B.1.1 B.1.2.1 dX5_takes_58 rfl (lv_at hl 4 rfl) ?_
              refine lv_goto (tgt := 63) B.1.1 B.1.2.1 dX5_takes_59 (by decide) ?_
              refine lv_istore_n (i := 2) (lv' := [(2, .int m3), (4, .int (1 : Int32)), (0, .ref c0), (1, .int c1), (3, .int m3)]) B.1.1 B.1.2.1 dX5_takes_63 rfl hl (by decide) rfl (fun ls hl9 => ?_)
              replace hl := hl9
              clear hl9
              refine lv_iinc (i := 3) (v := (m3 + (1 : Int32))) (lv' := [(3, .int (m3 + (1 : Int32))), (2, .int m3), (4, .int (1 : Int32)), (0, .ref c0), (1, .int c1)]) B.1.1 B.1.2.1 dX5_takes_64 hl (k := 4) rfl rfl (by decide) rfl (fun ls hl9 => ?_)
              replace hl := hl9
              clear hl9
              refine lv_goto (tgt := 4) B.1.1 B.1.2.1 dX5_takes_67 (by decide) ?_
              exact ih m3 (m3 + (1 : Int32)) _ _ _ ls h (lv_sub hl [3, 4, 1, 0] rfl) hw hk
  intro h hl hw
  replace hl : lv_has ls 5 [(0, .ref a0), (1, .int x1)] := hl
  refine lv_iconst (v := (-1 : Int32)) B.1.1 B.1.2.1 dX5_takes_0 (by decide) ?_
  refine lv_istore_n (i := 2) (lv' := [(2, .int (-1 : Int32)), (0, .ref a0), (1, .int x1)]) B.1.1 B.1.2.1 dX5_takes_1 rfl hl (by decide) rfl (fun ls hl9 => ?_)
  replace hl := hl9
  clear hl9
  refine lv_iconst (v := (0 : Int32)) B.1.1 B.1.2.1 dX5_takes_2 (by decide) ?_
  refine lv_istore_n (i := 3) (lv' := [(3, .int (0 : Int32)), (2, .int (-1 : Int32)), (0, .ref a0), (1, .int x1)]) B.1.1 B.1.2.1 dX5_takes_3 rfl hl (by decide) rfl (fun ls hl9 => ?_)
  replace hl := hl9
  clear hl9
  obtain ⟨n1, hw⟩ := hw
  refine L4 a0 x1 _ n1 (-1 : Int32) (0 : Int32) _ _ _ ls h (lv_sub hl [2, 3, 1, 0] rfl) hw (fun u1 u2 S1 H locs ls h9 hl9 hw9 => ?_)
  replace hw := hw9
  clear hw9
  replace h := h9
  clear h9
  replace hl := hl9
  clear hl9
  refine lv_iload_n B.1.1 B.1.2.1 dX5_takes_70 rfl (lv_at hl 2 rfl) ?_
  refine lv_iconst (v := (-1 : Int32)) B.1.1 B.1.2.1 dX5_takes_71 (by decide) ?_
  refine lv_icmp_eq (tgt := 120) B.1.1 B.1.2.1 dX5_takes_72 (by decide) (fun hc => ?_) (fun hc => ?_)
  · replace hw := hw.1 hc
    exact q_vret B hr hlk h hw dX5_takes_120 (Nat.le_of_ble_eq_true rfl) (Nat.le_of_ble_eq_true rfl)
  · replace hw := hw.2 hc
    refine lv_aload_n B.1.1 B.1.2.1 dX5_takes_75 rfl (lv_at hl 0 rfl) ?_
    obtain ⟨hok, hw⟩ := hw
    refine q_getR B h (ci := 5) (j := 9) (code := 169) rfl inT_5 (by decide) kF_RX5_31 rfl rfl rfl (by decide) dX5_takes_76 hok.1 hok.2 ?_
    obtain ⟨o4, hoo4⟩ : ∃ z, z = gR S1 169 a0 := ⟨_, rfl⟩
    rw [← hoo4]
    replace hw := hw o4 hoo4
    refine lv_iload_n B.1.1 B.1.2.1 dX5_takes_79 rfl (lv_at hl 2 rfl) ?_
    refine lv_iconst (v := (-1 : Int32)) B.1.1 B.1.2.1 dX5_takes_80 (by decide) ?_
    obtain ⟨q4, hn, hw⟩ := hw
    subst hn
    replace hl : lv_has ls 5 [(0, .ref a0), (1, .int x1), (2, .int u1), (3, .int u2)] := hl
    obtain ⟨hok, hin9, hw⟩ := hw
    refine q_iast B h dX5_takes_81 hok.1 hok.2 hin9 (fun H locs h9 => ?_)
    obtain ⟨S2, hS2, hh⟩ : ∃ z, z = sA S1 q4 u1.toNatClampNeg (-1 : Int32) ∧ Hx D cs lo s z H _ := ⟨_, rfl, h9⟩
    clear h9
    replace h := hh
    clear hh
    replace hw := hw S2 hS2
    refine lv_aload_n B.1.1 B.1.2.1 dX5_takes_82 rfl (lv_at hl 0 rfl) ?_
    obtain ⟨hok, hw⟩ := hw
    refine q_getR B h (ci := 5) (j := 16) (code := 176) rfl inT_5 (by decide) kF_RX5_53 rfl rfl rfl (by decide) dX5_takes_83 hok.1 hok.2 ?_
    obtain ⟨o5, hoo5⟩ : ∃ z, z = gR S2 176 a0 := ⟨_, rfl⟩
    rw [← hoo5]
    replace hw := hw o5 hoo5
    refine lv_iload_n B.1.1 B.1.2.1 dX5_takes_86 rfl (lv_at hl 1 rfl) ?_
    refine lv_iload_n B.1.1 B.1.2.1 dX5_takes_87 rfl (lv_at hl 2 rfl) ?_
    obtain ⟨q5, hn, hw⟩ := hw
    subst hn
    replace hl : lv_has ls 5 [(0, .ref a0), (1, .int x1), (2, .int u1), (3, .int u2)] := hl
    obtain ⟨hok, hin9, hw⟩ := hw
    refine q_iast B h dX5_takes_88 hok.1 hok.2 hin9 (fun H locs h9 => ?_)
    obtain ⟨S3, hS3, hh⟩ : ∃ z, z = sA S2 q5 x1.toNatClampNeg u1 ∧ Hx D cs lo s z H _ := ⟨_, rfl, h9⟩
    clear h9
    replace h := hh
    clear hh
    replace hw := hw S3 hS3
    refine lv_aload_n B.1.1 B.1.2.1 dX5_takes_89 rfl (lv_at hl 0 rfl) ?_
    obtain ⟨hok, hw⟩ := hw
    refine q_getR B h (ci := 5) (j := 17) (code := 177) rfl inT_5 (by decide) kF_RX5_56 rfl rfl rfl (by decide) dX5_takes_90 hok.1 hok.2 ?_
    obtain ⟨o6, hoo6⟩ : ∃ z, z = gR S3 177 a0 := ⟨_, rfl⟩
    rw [← hoo6]
    replace hw := hw o6 hoo6
    refine lv_iload_n B.1.1 B.1.2.1 dX5_takes_93 rfl (lv_at hl 1 rfl) ?_
    refine lv_aload_n B.1.1 B.1.2.1 dX5_takes_94 rfl (lv_at hl 0 rfl) ?_
    refine lv_iload_n B.1.1 B.1.2.1 dX5_takes_95 rfl (lv_at hl 2 rfl) ?_
    refine lv_bipush (v := (16 : Int32)) B.1.1 B.1.2.1 dX5_takes_96 (by decide) ?_
    refine lv_idiv B.1.1 B.1.2.1 dX5_takes_98 (by decide) ?_
    refine lv_iload_n B.1.1 B.1.2.1 dX5_takes_99 rfl (lv_at hl 2 rfl) ?_
    refine lv_bipush (v := (16 : Int32)) B.1.1 B.1.2.1 dX5_takes_100 (by decide) ?_
    refine lv_irem B.1.1 B.1.2.1 dX5_takes_102 (by decide) ?_
    obtain ⟨hok, hw⟩ := hw
    refine q_callIV B h (met_X5_end l a0 (u1 / (16 : Int32)) (u1 - u1 / (16 : Int32) * (16 : Int32))) (CB B 2 kC_X5_end kI_RX5 kM_RX5_88 hd_X5_end ⟨Nat.le_of_ble_eq_true rfl, Nat.le_of_ble_eq_true rfl⟩) kO_X5_end kV_X5_end (ci := 5) rfl (by decide) hok.1 hok.2 (rest := [.int x1, va_rf o6]) rfl rfl hl.1 (by simp [rf_cat, cat_i, cat_r, cat_n, cat_j, cat_f, cat_d]) dX5_takes_103 ⟨Nat.le_of_ble_eq_true rfl, Nat.le_of_ble_eq_true rfl⟩ hw (fun r1 S4 H locs hw9 h9 => ?_)
    replace hw := hw9
    clear hw9
    replace h := h9
    clear h9
    refine lv_aload_n B.1.1 B.1.2.1 dX5_takes_106 rfl (lv_at hl 0 rfl) ?_
    refine lv_iload_n B.1.1 B.1.2.1 dX5_takes_107 rfl (lv_at hl 2 rfl) ?_
    refine lv_bipush (v := (16 : Int32)) B.1.1 B.1.2.1 dX5_takes_108 (by decide) ?_
    refine lv_idiv B.1.1 B.1.2.1 dX5_takes_110 (by decide) ?_
    refine lv_iload_n B.1.1 B.1.2.1 dX5_takes_111 rfl (lv_at hl 2 rfl) ?_
    refine lv_bipush (v := (16 : Int32)) B.1.1 B.1.2.1 dX5_takes_112 (by decide) ?_
    refine lv_irem B.1.1 B.1.2.1 dX5_takes_114 (by decide) ?_
    obtain ⟨hok, hw⟩ := hw
    refine q_callIV B h (met_X5_first l a0 (u1 / (16 : Int32)) (u1 - u1 / (16 : Int32) * (16 : Int32))) (CB B 2 kC_X5_first kI_RX5 kM_RX5_84 hd_X5_first ⟨Nat.le_of_ble_eq_true rfl, Nat.le_of_ble_eq_true rfl⟩) kO_X5_first kV_X5_first (ci := 5) rfl (by decide) hok.1 hok.2 (rest := [.int r1, .int x1, va_rf o6]) rfl rfl hl.1 (by simp [rf_cat, cat_i, cat_r, cat_n, cat_j, cat_f, cat_d]) dX5_takes_115 ⟨Nat.le_of_ble_eq_true rfl, Nat.le_of_ble_eq_true rfl⟩ hw (fun r2 S5 H locs hw9 h9 => ?_)
    replace hw := hw9
    clear hw9
    replace h := h9
    clear h9
    refine lv_isub B.1.1 B.1.2.1 dX5_takes_118 ?_
    obtain ⟨q6, hn, hw⟩ := hw
    subst hn
    replace hl : lv_has ls 5 [(0, .ref a0), (1, .int x1), (2, .int u1), (3, .int u2)] := hl
    obtain ⟨hok, hin9, hw⟩ := hw
    refine q_iast B h dX5_takes_119 hok.1 hok.2 hin9 (fun H locs h9 => ?_)
    obtain ⟨S6, hS6, hh⟩ : ∃ z, z = sA S5 q6 x1.toNatClampNeg (r1 - r2) ∧ Hx D cs lo s z H _ := ⟨_, rfl, h9⟩
    clear h9
    replace h := hh
    clear hh
    replace hw := hw S6 hS6
    exact q_vret B hr hlk h hw dX5_takes_120 (Nat.le_of_ble_eq_true rfl) (Nat.le_of_ble_eq_true rfl)
set_option maxHeartbeats 4000000 in
set_option maxRecDepth 100000 in
theorem met_X5_place (l : Launch) (a0 : Nat) (x1 : Int32) (x2 : Int32) (x3 : Int32) (x4 : Int32) : MI l yX5_place cX5_place 5 (some .int) 1 22 0 0 [.ref a0, .int x1, .int x2, .int x3, .int x4] (wX5_place a0 x1 x2 x3 x4) := by
  refine MI.of (by decide) (Nat.le_of_ble_eq_true rfl) ?_
  intro p e s m below meth c D cs lo S Q ls B hr hlk hin
  intro h hl hw
  replace hl : lv_has ls 5 [(0, .ref a0), (1, .int x1), (2, .int x2), (3, .int x3), (4, .int x4)] := hl
  refine lv_sipush (v := (1280 : Int32)) B.1.1 B.1.2.1 dX5_place_0 (by decide) ?_
  refine lv_iload_n B.1.1 B.1.2.1 dX5_place_3 rfl (lv_at hl 2 rfl) ?_
  refine lv_iconst (v := (2 : Int32)) B.1.1 B.1.2.1 dX5_place_4 (by decide) ?_
  refine lv_irem B.1.1 B.1.2.1 dX5_place_5 (by decide) ?_
  refine lv_imul B.1.1 B.1.2.1 dX5_place_6 ?_
  refine lv_iload_n B.1.1 B.1.2.1 dX5_place_7 rfl (lv_at hl 1 rfl) ?_
  refine lv_iload_n B.1.1 B.1.2.1 dX5_place_8 rfl (lv_at hl 3 rfl) ?_
  refine lv_iload B.1.1 B.1.2.1 dX5_place_9 (lv_at hl 4 rfl) ?_
  refine q_callIS B h (met_X5_dot l x1 x3 x4) (CB B 3 kC_X5_dot kI_RX5 kM_RX5_97 hd_X5_dot ⟨Nat.le_of_ble_eq_true rfl, Nat.le_of_ble_eq_true rfl⟩) kS_X5_dot (rest := [.int ((1280 : Int32) * (x2 - x2 / (2 : Int32) * (2 : Int32)))]) rfl rfl hl.1 (Nat.le_of_ble_eq_true rfl) dX5_place_11 ⟨Nat.le_of_ble_eq_true rfl, Nat.le_of_ble_eq_true rfl⟩ hw (fun r1 S1 H locs hw9 h9 => ?_)
  replace hw := hw9
  clear hw9
  replace h := h9
  clear h9
  refine lv_iadd B.1.1 B.1.2.1 dX5_place_14 ?_
  exact q_iret B hr hlk h hw dX5_place_15 (Nat.le_of_ble_eq_true rfl) (Nat.le_of_ble_eq_true rfl)
