theorem dX0_hasColumn_0 : decode cX0_hasColumn 0 = .ok (.iload_n 1, 1) := by decide +kernel
theorem dX0_hasColumn_1 : decode cX0_hasColumn 1 = .ok (.ifCond .lt 15, 3) := by decide +kernel
theorem dX0_hasColumn_4 : decode cX0_hasColumn 4 = .ok (.iload_n 1, 1) := by decide +kernel
theorem dX0_hasColumn_5 : decode cX0_hasColumn 5 = .ok (.aload_n 0, 1) := by decide +kernel
theorem dX0_hasColumn_6 : decode cX0_hasColumn 6 = .ok (.getfield 31, 3) := by decide +kernel
theorem dX0_hasColumn_9 : decode cX0_hasColumn 9 = .ok (.if_icmp .ge 7, 3) := by decide +kernel
theorem dX0_hasColumn_12 : decode cX0_hasColumn 12 = .ok (.iconst 1, 1) := by decide +kernel
theorem dX0_hasColumn_13 : decode cX0_hasColumn 13 = .ok (.goto 4, 3) := by decide +kernel
theorem dX0_hasColumn_16 : decode cX0_hasColumn 16 = .ok (.iconst 0, 1) := by decide +kernel
theorem dX0_hasColumn_17 : decode cX0_hasColumn 17 = .ok (.ireturn, 1) := by decide +kernel
theorem dX0_stripOf_0 : decode cX0_stripOf 0 = .ok (.iload_n 1, 1) := by decide +kernel
theorem dX0_stripOf_1 : decode cX0_stripOf 1 = .ok (.ifCond .lt 21, 3) := by decide +kernel
theorem dX0_stripOf_4 : decode cX0_stripOf 4 = .ok (.iload_n 1, 1) := by decide +kernel
theorem dX0_stripOf_5 : decode cX0_stripOf 5 = .ok (.aload_n 0, 1) := by decide +kernel
theorem dX0_stripOf_6 : decode cX0_stripOf 6 = .ok (.getfield 23, 3) := by decide +kernel
theorem dX0_stripOf_9 : decode cX0_stripOf 9 = .ok (.arraylength, 1) := by decide +kernel
theorem dX0_stripOf_10 : decode cX0_stripOf 10 = .ok (.if_icmp .ge 12, 3) := by decide +kernel
theorem dX0_stripOf_13 : decode cX0_stripOf 13 = .ok (.aload_n 0, 1) := by decide +kernel
theorem dX0_stripOf_14 : decode cX0_stripOf 14 = .ok (.getfield 23, 3) := by decide +kernel
theorem dX0_stripOf_17 : decode cX0_stripOf 17 = .ok (.iload_n 1, 1) := by decide +kernel
theorem dX0_stripOf_18 : decode cX0_stripOf 18 = .ok (.aaload, 1) := by decide +kernel
theorem dX0_stripOf_19 : decode cX0_stripOf 19 = .ok (.goto 4, 3) := by decide +kernel
theorem dX0_stripOf_22 : decode cX0_stripOf 22 = .ok (.aconst_null, 1) := by decide +kernel
theorem dX0_stripOf_23 : decode cX0_stripOf 23 = .ok (.areturn, 1) := by decide +kernel
theorem dX0_setLevels_0 : decode cX0_setLevels 0 = .ok (.iconst 0, 1) := by decide +kernel
theorem dX0_setLevels_1 : decode cX0_setLevels 1 = .ok (.istore 5, 2) := by decide +kernel
theorem dX0_setLevels_3 : decode cX0_setLevels 3 = .ok (.iload_n 2, 1) := by decide +kernel
theorem dX0_setLevels_4 : decode cX0_setLevels 4 = .ok (.istore 6, 2) := by decide +kernel
theorem dX0_setLevels_6 : decode cX0_setLevels 6 = .ok (.iload 6, 2) := by decide +kernel
theorem dX0_setLevels_8 : decode cX0_setLevels 8 = .ok (.iload_n 3, 1) := by decide +kernel
theorem dX0_setLevels_9 : decode cX0_setLevels 9 = .ok (.if_icmp .ge 29, 3) := by decide +kernel
theorem dX0_setLevels_12 : decode cX0_setLevels 12 = .ok (.aload_n 0, 1) := by decide +kernel
theorem dX0_setLevels_13 : decode cX0_setLevels 13 = .ok (.getfield 12, 3) := by decide +kernel
theorem dX0_setLevels_16 : decode cX0_setLevels 16 = .ok (.iload_n 1, 1) := by decide +kernel
theorem dX0_setLevels_17 : decode cX0_setLevels 17 = .ok (.iload 6, 2) := by decide +kernel
theorem dX0_setLevels_19 : decode cX0_setLevels 19 = .ok (.iload 4, 2) := by decide +kernel
theorem dX0_setLevels_21 : decode cX0_setLevels 21 = .ok (.invokevirtual 52, 3) := by decide +kernel
theorem dX0_setLevels_24 : decode cX0_setLevels 24 = .ok (.iload 4, 2) := by decide +kernel
theorem dX0_setLevels_26 : decode cX0_setLevels 26 = .ok (.if_icmp .eq 6, 3) := by decide +kernel
theorem dX0_setLevels_29 : decode cX0_setLevels 29 = .ok (.iinc 5 1, 3) := by decide +kernel
theorem dX0_setLevels_32 : decode cX0_setLevels 32 = .ok (.iinc 6 1, 3) := by decide +kernel
theorem dX0_setLevels_35 : decode cX0_setLevels 35 = .ok (.goto (-29), 3) := by decide +kernel
theorem dX0_setLevels_38 : decode cX0_setLevels 38 = .ok (.iload 5, 2) := by decide +kernel
theorem dX0_setLevels_40 : decode cX0_setLevels 40 = .ok (.ireturn, 1) := by decide +kernel
theorem dX0_share_0 : decode cX0_share 0 = .ok (.aload_n 1, 1) := by decide +kernel
theorem dX0_share_1 : decode cX0_share 1 = .ok (.aload_n 0, 1) := by decide +kernel
theorem dX0_share_2 : decode cX0_share 2 = .ok (.getfield 12, 3) := by decide +kernel
theorem dX0_share_5 : decode cX0_share 5 = .ok (.iload_n 2, 1) := by decide +kernel
theorem dX0_share_6 : decode cX0_share 6 = .ok (.iload_n 3, 1) := by decide +kernel
theorem dX0_share_7 : decode cX0_share 7 = .ok (.invokevirtual 56, 3) := by decide +kernel
theorem dX0_share_10 : decode cX0_share 10 = .ok (.iload_n 3, 1) := by decide +kernel
theorem dX0_share_11 : decode cX0_share 11 = .ok (.invokevirtual 59, 3) := by decide +kernel
theorem dX0_share_14 : decode cX0_share 14 = .ok (.ireturn, 1) := by decide +kernel
theorem dX0_firstWaitingFor_0 : decode cX0_firstWaitingFor 0 = .ok (.iconst 0, 1) := by decide +kernel
theorem dX0_firstWaitingFor_1 : decode cX0_firstWaitingFor 1 = .ok (.istore_n 2, 1) := by decide +kernel
theorem dX0_firstWaitingFor_2 : decode cX0_firstWaitingFor 2 = .ok (.iload_n 2, 1) := by decide +kernel
theorem dX0_firstWaitingFor_3 : decode cX0_firstWaitingFor 3 = .ok (.aload_n 0, 1) := by decide +kernel
theorem dX0_firstWaitingFor_4 : decode cX0_firstWaitingFor 4 = .ok (.getfield 23, 3) := by decide +kernel
theorem dX0_firstWaitingFor_7 : decode cX0_firstWaitingFor 7 = .ok (.arraylength, 1) := by decide +kernel
theorem dX0_firstWaitingFor_8 : decode cX0_firstWaitingFor 8 = .ok (.if_icmp .ge 30, 3) := by decide +kernel
theorem dX0_firstWaitingFor_11 : decode cX0_firstWaitingFor 11 = .ok (.aload_n 0, 1) := by decide +kernel
theorem dX0_firstWaitingFor_12 : decode cX0_firstWaitingFor 12 = .ok (.getfield 23, 3) := by decide +kernel
theorem dX0_firstWaitingFor_15 : decode cX0_firstWaitingFor 15 = .ok (.iload_n 2, 1) := by decide +kernel
theorem dX0_firstWaitingFor_16 : decode cX0_firstWaitingFor 16 = .ok (.aaload, 1) := by decide +kernel
theorem dX0_firstWaitingFor_17 : decode cX0_firstWaitingFor 17 = .ok (.astore_n 3, 1) := by decide +kernel
theorem dX0_firstWaitingFor_18 : decode cX0_firstWaitingFor 18 = .ok (.aload_n 3, 1) := by decide +kernel
theorem dX0_firstWaitingFor_19 : decode cX0_firstWaitingFor 19 = .ok (.ifnull 13, 3) := by decide +kernel
theorem dX0_firstWaitingFor_22 : decode cX0_firstWaitingFor 22 = .ok (.aload_n 3, 1) := by decide +kernel
theorem dX0_firstWaitingFor_23 : decode cX0_firstWaitingFor 23 = .ok (.getfield 62, 3) := by decide +kernel
theorem dX0_firstWaitingFor_26 : decode cX0_firstWaitingFor 26 = .ok (.iload_n 1, 1) := by decide +kernel
theorem dX0_firstWaitingFor_27 : decode cX0_firstWaitingFor 27 = .ok (.if_icmp .ne 5, 3) := by decide +kernel
theorem dX0_firstWaitingFor_30 : decode cX0_firstWaitingFor 30 = .ok (.aload_n 3, 1) := by decide +kernel
theorem dX0_firstWaitingFor_31 : decode cX0_firstWaitingFor 31 = .ok (.areturn, 1) := by decide +kernel
theorem dX0_firstWaitingFor_32 : decode cX0_firstWaitingFor 32 = .ok (.iinc 2 1, 3) := by decide +kernel
theorem dX0_firstWaitingFor_35 : decode cX0_firstWaitingFor 35 = .ok (.goto (-33), 3) := by decide +kernel
theorem dX0_firstWaitingFor_38 : decode cX0_firstWaitingFor 38 = .ok (.aconst_null, 1) := by decide +kernel
theorem dX0_firstWaitingFor_39 : decode cX0_firstWaitingFor 39 = .ok (.areturn, 1) := by decide +kernel
theorem dX0_layDot_0 : decode cX0_layDot 0 = .ok (.aload_n 1, 1) := by decide +kernel
theorem dX0_layDot_1 : decode cX0_layDot 1 = .ok (.getfield 65, 3) := by decide +kernel
theorem dX0_layDot_4 : decode cX0_layDot 4 = .ok (.iload_n 2, 1) := by decide +kernel
theorem dX0_layDot_5 : decode cX0_layDot 5 = .ok (.iload_n 3, 1) := by decide +kernel
theorem dX0_layDot_6 : decode cX0_layDot 6 = .ok (.iload 4, 2) := by decide +kernel
theorem dX0_layDot_8 : decode cX0_layDot 8 = .ok (.invokevirtual 52, 3) := by decide +kernel
theorem dX0_layDot_11 : decode cX0_layDot 11 = .ok (.istore 5, 2) := by decide +kernel
theorem dX0_layDot_13 : decode cX0_layDot 13 = .ok (.aload_n 0, 1) := by decide +kernel
theorem dX0_layDot_14 : decode cX0_layDot 14 = .ok (.getfield 18, 3) := by decide +kernel
theorem dX0_layDot_17 : decode cX0_layDot 17 = .ok (.iload_n 2, 1) := by decide +kernel
theorem dX0_layDot_18 : decode cX0_layDot 18 = .ok (.iload_n 3, 1) := by decide +kernel
theorem dX0_layDot_19 : decode cX0_layDot 19 = .ok (.aload_n 0, 1) := by decide +kernel
theorem dX0_layDot_20 : decode cX0_layDot 20 = .ok (.getfield 18, 3) := by decide +kernel
theorem dX0_layDot_23 : decode cX0_layDot 23 = .ok (.iload_n 2, 1) := by decide +kernel
theorem dX0_layDot_24 : decode cX0_layDot 24 = .ok (.iload_n 3, 1) := by decide +kernel
theorem dX0_layDot_25 : decode cX0_layDot 25 = .ok (.invokevirtual 56, 3) := by decide +kernel
theorem dX0_layDot_28 : decode cX0_layDot 28 = .ok (.iload 5, 2) := by decide +kernel
theorem dX0_layDot_30 : decode cX0_layDot 30 = .ok (.isub, 1) := by decide +kernel
theorem dX0_layDot_31 : decode cX0_layDot 31 = .ok (.iload 4, 2) := by decide +kernel
theorem dX0_layDot_33 : decode cX0_layDot 33 = .ok (.iadd, 1) := by decide +kernel
theorem dX0_layDot_34 : decode cX0_layDot 34 = .ok (.invokevirtual 52, 3) := by decide +kernel
theorem dX0_layDot_37 : decode cX0_layDot 37 = .ok (.pop, 1) := by decide +kernel
theorem dX0_layDot_38 : decode cX0_layDot 38 = .ok (.aload_n 0, 1) := by decide +kernel
theorem dX0_layDot_39 : decode cX0_layDot 39 = .ok (.dup, 1) := by decide +kernel
theorem dX0_layDot_40 : decode cX0_layDot 40 = .ok (.getfield 27, 3) := by decide +kernel
theorem dX0_layDot_43 : decode cX0_layDot 43 = .ok (.iload 4, 2) := by decide +kernel
theorem dX0_layDot_45 : decode cX0_layDot 45 = .ok (.iadd, 1) := by decide +kernel
theorem dX0_layDot_46 : decode cX0_layDot 46 = .ok (.putfield 27, 3) := by decide +kernel
theorem dX0_layDot_49 : decode cX0_layDot 49 = .ok (.return_, 1) := by decide +kernel
theorem dX0_inkAt_0 : decode cX0_inkAt 0 = .ok (.aload_n 0, 1) := by decide +kernel
theorem dX0_inkAt_1 : decode cX0_inkAt 1 = .ok (.getfield 18, 3) := by decide +kernel
theorem dX0_inkAt_4 : decode cX0_inkAt 4 = .ok (.iload_n 1, 1) := by decide +kernel
theorem dX0_inkAt_5 : decode cX0_inkAt 5 = .ok (.iload_n 2, 1) := by decide +kernel
theorem dX0_inkAt_6 : decode cX0_inkAt 6 = .ok (.invokevirtual 56, 3) := by decide +kernel
theorem dX0_inkAt_9 : decode cX0_inkAt 9 = .ok (.aload_n 0, 1) := by decide +kernel
theorem dX0_inkAt_10 : decode cX0_inkAt 10 = .ok (.getfield 34, 3) := by decide +kernel
theorem dX0_inkAt_13 : decode cX0_inkAt 13 = .ok (.invokestatic 40, 3) := by decide +kernel
theorem dX0_inkAt_16 : decode cX0_inkAt 16 = .ok (.ireturn, 1) := by decide +kernel
theorem dX0_spiltDots_0 : decode cX0_spiltDots 0 = .ok (.iconst 0, 1) := by decide +kernel
theorem dX0_spiltDots_1 : decode cX0_spiltDots 1 = .ok (.istore_n 1, 1) := by decide +kernel
theorem dX0_spiltDots_2 : decode cX0_spiltDots 2 = .ok (.iconst 0, 1) := by decide +kernel
theorem dX0_spiltDots_3 : decode cX0_spiltDots 3 = .ok (.istore_n 2, 1) := by decide +kernel
theorem dX0_spiltDots_4 : decode cX0_spiltDots 4 = .ok (.iload_n 2, 1) := by decide +kernel
theorem dX0_spiltDots_5 : decode cX0_spiltDots 5 = .ok (.bipush 8, 2) := by decide +kernel
theorem dX0_spiltDots_7 : decode cX0_spiltDots 7 = .ok (.if_icmp .ge 44, 3) := by decide +kernel
theorem dX0_spiltDots_10 : decode cX0_spiltDots 10 = .ok (.iconst 0, 1) := by decide +kernel
theorem dX0_spiltDots_11 : decode cX0_spiltDots 11 = .ok (.istore_n 3, 1) := by decide +kernel
theorem dX0_spiltDots_12 : decode cX0_spiltDots 12 = .ok (.iload_n 3, 1) := by decide +kernel
theorem dX0_spiltDots_13 : decode cX0_spiltDots 13 = .ok (.aload_n 0, 1) := by decide +kernel
theorem dX0_spiltDots_14 : decode cX0_spiltDots 14 = .ok (.getfield 31, 3) := by decide +kernel
theorem dX0_spiltDots_17 : decode cX0_spiltDots 17 = .ok (.if_icmp .ge 28, 3) := by decide +kernel
theorem dX0_spiltDots_20 : decode cX0_spiltDots 20 = .ok (.aload_n 0, 1) := by decide +kernel
theorem dX0_spiltDots_21 : decode cX0_spiltDots 21 = .ok (.getfield 18, 3) := by decide +kernel
theorem dX0_spiltDots_24 : decode cX0_spiltDots 24 = .ok (.iload_n 2, 1) := by decide +kernel
theorem dX0_spiltDots_25 : decode cX0_spiltDots 25 = .ok (.iload_n 3, 1) := by decide +kernel
theorem dX0_spiltDots_26 : decode cX0_spiltDots 26 = .ok (.invokevirtual 56, 3) := by decide +kernel
theorem dX0_spiltDots_29 : decode cX0_spiltDots 29 = .ok (.aload_n 0, 1) := by decide +kernel
theorem dX0_spiltDots_30 : decode cX0_spiltDots 30 = .ok (.getfield 34, 3) := by decide +kernel
theorem dX0_spiltDots_33 : decode cX0_spiltDots 33 = .ok (.if_icmp .le 6, 3) := by decide +kernel
theorem dX0_spiltDots_36 : decode cX0_spiltDots 36 = .ok (.iinc 1 1, 3) := by decide +kernel
theorem dX0_spiltDots_39 : decode cX0_spiltDots 39 = .ok (.iinc 3 1, 3) := by decide +kernel
theorem dX0_spiltDots_42 : decode cX0_spiltDots 42 = .ok (.goto (-30), 3) := by decide +kernel
theorem dX0_spiltDots_45 : decode cX0_spiltDots 45 = .ok (.iinc 2 1, 3) := by decide +kernel
theorem dX0_spiltDots_48 : decode cX0_spiltDots 48 = .ok (.goto (-44), 3) := by decide +kernel
theorem dX0_spiltDots_51 : decode cX0_spiltDots 51 = .ok (.iload_n 1, 1) := by decide +kernel
theorem dX0_spiltDots_52 : decode cX0_spiltDots 52 = .ok (.ireturn, 1) := by decide +kernel
theorem dX0_errorAt_0 : decode cX0_errorAt 0 = .ok (.aload_n 0, 1) := by decide +kernel
theorem dX0_errorAt_1 : decode cX0_errorAt 1 = .ok (.iload_n 1, 1) := by decide +kernel
theorem dX0_errorAt_2 : decode cX0_errorAt 2 = .ok (.iload_n 2, 1) := by decide +kernel
theorem dX0_errorAt_3 : decode cX0_errorAt 3 = .ok (.invokevirtual 66, 3) := by decide +kernel
theorem dX0_errorAt_6 : decode cX0_errorAt 6 = .ok (.aload_n 0, 1) := by decide +kernel
theorem dX0_errorAt_7 : decode cX0_errorAt 7 = .ok (.getfield 12, 3) := by decide +kernel
theorem dX0_errorAt_10 : decode cX0_errorAt 10 = .ok (.iload_n 1, 1) := by decide +kernel
theorem dX0_errorAt_11 : decode cX0_errorAt 11 = .ok (.iload_n 2, 1) := by decide +kernel
theorem dX0_errorAt_12 : decode cX0_errorAt 12 = .ok (.invokevirtual 56, 3) := by decide +kernel
theorem dX0_errorAt_15 : decode cX0_errorAt 15 = .ok (.isub, 1) := by decide +kernel
theorem dX0_errorAt_16 : decode cX0_errorAt 16 = .ok (.invokestatic 69, 3) := by decide +kernel
theorem dX0_errorAt_19 : decode cX0_errorAt 19 = .ok (.ireturn, 1) := by decide +kernel
theorem dX0_errorSum_0 : decode cX0_errorSum 0 = .ok (.iconst 0, 1) := by decide +kernel
theorem dX0_errorSum_1 : decode cX0_errorSum 1 = .ok (.istore_n 1, 1) := by decide +kernel
theorem dX0_errorSum_2 : decode cX0_errorSum 2 = .ok (.iconst 0, 1) := by decide +kernel
theorem dX0_errorSum_3 : decode cX0_errorSum 3 = .ok (.istore_n 2, 1) := by decide +kernel
theorem dX0_errorSum_4 : decode cX0_errorSum 4 = .ok (.iload_n 2, 1) := by decide +kernel
theorem dX0_errorSum_5 : decode cX0_errorSum 5 = .ok (.bipush 8, 2) := by decide +kernel
theorem dX0_errorSum_7 : decode cX0_errorSum 7 = .ok (.if_icmp .ge 34, 3) := by decide +kernel
theorem dX0_errorSum_10 : decode cX0_errorSum 10 = .ok (.iconst 0, 1) := by decide +kernel
theorem dX0_errorSum_11 : decode cX0_errorSum 11 = .ok (.istore_n 3, 1) := by decide +kernel
theorem dX0_errorSum_12 : decode cX0_errorSum 12 = .ok (.iload_n 3, 1) := by decide +kernel
theorem dX0_errorSum_13 : decode cX0_errorSum 13 = .ok (.aload_n 0, 1) := by decide +kernel
theorem dX0_errorSum_14 : decode cX0_errorSum 14 = .ok (.getfield 31, 3) := by decide +kernel
theorem dX0_errorSum_17 : decode cX0_errorSum 17 = .ok (.if_icmp .ge 18, 3) := by decide +kernel
theorem dX0_errorSum_20 : decode cX0_errorSum 20 = .ok (.iload_n 1, 1) := by decide +kernel
theorem dX0_errorSum_21 : decode cX0_errorSum 21 = .ok (.aload_n 0, 1) := by decide +kernel
theorem dX0_errorSum_22 : decode cX0_errorSum 22 = .ok (.iload_n 2, 1) := by decide +kernel
theorem dX0_errorSum_23 : decode cX0_errorSum 23 = .ok (.iload_n 3, 1) := by decide +kernel
theorem dX0_errorSum_24 : decode cX0_errorSum 24 = .ok (.invokevirtual 73, 3) := by decide +kernel
theorem dX0_errorSum_27 : decode cX0_errorSum 27 = .ok (.iadd, 1) := by decide +kernel
theorem dX0_errorSum_28 : decode cX0_errorSum 28 = .ok (.istore_n 1, 1) := by decide +kernel
theorem dX0_errorSum_29 : decode cX0_errorSum 29 = .ok (.iinc 3 1, 3) := by decide +kernel
theorem dX0_errorSum_32 : decode cX0_errorSum 32 = .ok (.goto (-20), 3) := by decide +kernel
theorem dX0_errorSum_35 : decode cX0_errorSum 35 = .ok (.iinc 2 1, 3) := by decide +kernel
theorem dX0_errorSum_38 : decode cX0_errorSum 38 = .ok (.goto (-34), 3) := by decide +kernel
theorem dX0_errorSum_41 : decode cX0_errorSum 41 = .ok (.iload_n 1, 1) := by decide +kernel
theorem dX0_errorSum_42 : decode cX0_errorSum 42 = .ok (.ireturn, 1) := by decide +kernel
theorem dX0_seamError_0 : decode cX0_seamError 0 = .ok (.aload_n 1, 1) := by decide +kernel
theorem dX0_seamError_1 : decode cX0_seamError 1 = .ok (.getfield 76, 3) := by decide +kernel
theorem dX0_seamError_4 : decode cX0_seamError 4 = .ok (.iconst 1, 1) := by decide +kernel
theorem dX0_seamError_5 : decode cX0_seamError 5 = .ok (.isub, 1) := by decide +kernel
theorem dX0_seamError_6 : decode cX0_seamError 6 = .ok (.aload_n 2, 1) := by decide +kernel
theorem dX0_seamError_7 : decode cX0_seamError 7 = .ok (.getfield 79, 3) := by decide +kernel
theorem dX0_seamError_10 : decode cX0_seamError 10 = .ok (.invokestatic 40, 3) := by decide +kernel
theorem dX0_seamError_13 : decode cX0_seamError 13 = .ok (.istore_n 3, 1) := by decide +kernel
theorem dX0_seamError_14 : decode cX0_seamError 14 = .ok (.aload_n 1, 1) := by decide +kernel
theorem dX0_seamError_15 : decode cX0_seamError 15 = .ok (.getfield 76, 3) := by decide +kernel
theorem dX0_seamError_18 : decode cX0_seamError 18 = .ok (.iconst 1, 1) := by decide +kernel
theorem dX0_seamError_19 : decode cX0_seamError 19 = .ok (.isub, 1) := by decide +kernel
theorem dX0_seamError_20 : decode cX0_seamError 20 = .ok (.aload_n 2, 1) := by decide +kernel
theorem dX0_seamError_21 : decode cX0_seamError 21 = .ok (.getfield 79, 3) := by decide +kernel
theorem dX0_seamError_24 : decode cX0_seamError 24 = .ok (.invokestatic 82, 3) := by decide +kernel
theorem dX0_seamError_27 : decode cX0_seamError 27 = .ok (.istore 4, 2) := by decide +kernel
theorem dX0_seamError_29 : decode cX0_seamError 29 = .ok (.iconst 0, 1) := by decide +kernel
theorem dX0_seamError_30 : decode cX0_seamError 30 = .ok (.istore 5, 2) := by decide +kernel
theorem dX0_seamError_32 : decode cX0_seamError 32 = .ok (.iconst 0, 1) := by decide +kernel
theorem dX0_seamError_33 : decode cX0_seamError 33 = .ok (.istore 6, 2) := by decide +kernel
theorem dX0_seamError_35 : decode cX0_seamError 35 = .ok (.iload 6, 2) := by decide +kernel
theorem dX0_seamError_37 : decode cX0_seamError 37 = .ok (.bipush 8, 2) := by decide +kernel
theorem dX0_seamError_39 : decode cX0_seamError 39 = .ok (.if_icmp .ge 40, 3) := by decide +kernel
theorem dX0_seamError_42 : decode cX0_seamError 42 = .ok (.iload_n 3, 1) := by decide +kernel
theorem dX0_seamError_43 : decode cX0_seamError 43 = .ok (.istore 7, 2) := by decide +kernel
theorem dX0_seamError_45 : decode cX0_seamError 45 = .ok (.iload 7, 2) := by decide +kernel
theorem dX0_seamError_47 : decode cX0_seamError 47 = .ok (.iload 4, 2) := by decide +kernel
theorem dX0_seamError_49 : decode cX0_seamError 49 = .ok (.if_icmp .gt 24, 3) := by decide +kernel
theorem dX0_seamError_52 : decode cX0_seamError 52 = .ok (.iload 5, 2) := by decide +kernel
theorem dX0_seamError_54 : decode cX0_seamError 54 = .ok (.aload_n 0, 1) := by decide +kernel
theorem dX0_seamError_55 : decode cX0_seamError 55 = .ok (.iload 6, 2) := by decide +kernel
theorem dX0_seamError_57 : decode cX0_seamError 57 = .ok (.iload 7, 2) := by decide +kernel
theorem dX0_seamError_59 : decode cX0_seamError 59 = .ok (.invokevirtual 73, 3) := by decide +kernel
theorem dX0_seamError_62 : decode cX0_seamError 62 = .ok (.invokestatic 82, 3) := by decide +kernel
theorem dX0_seamError_65 : decode cX0_seamError 65 = .ok (.istore 5, 2) := by decide +kernel
theorem dX0_seamError_67 : decode cX0_seamError 67 = .ok (.iinc 7 1, 3) := by decide +kernel
theorem dX0_seamError_70 : decode cX0_seamError 70 = .ok (.goto (-25), 3) := by decide +kernel
theorem dX0_seamError_73 : decode cX0_seamError 73 = .ok (.iinc 6 1, 3) := by decide +kernel
theorem dX0_seamError_76 : decode cX0_seamError 76 = .ok (.goto (-41), 3) := by decide +kernel
theorem dX0_seamError_79 : decode cX0_seamError 79 = .ok (.iload 5, 2) := by decide +kernel
theorem dX0_seamError_81 : decode cX0_seamError 81 = .ok (.ireturn, 1) := by decide +kernel

def wX0_hasColumn (a0 : Nat) (x1 : Int32) (S : HS) (Q : Int32 → HS → Prop) : Prop := ((x1 < 0 → Q (0 : Int32) S) ∧ (¬ x1 < 0 → (ok S a0 0 ∧ (((gI S 0 a0) ≤ x1 → Q (0 : Int32) S) ∧ (¬ (gI S 0 a0) ≤ x1 → Q (1 : Int32) S)))))

def wX0_stripOf (a0 : Nat) (x1 : Int32) (S : HS) (Q : Option Nat → HS → Prop) : Prop := ((x1 < 0 → Q none S) ∧ (¬ x1 < 0 → (ok S a0 0 ∧ (∀ o1, o1 = gR S 5 a0 → (∃ q1, o1 = some q1 ∧ (ok S q1 10 ∧ (((nI (gN S q1)) ≤ x1 → Q none S) ∧ (¬ (nI (gN S q1)) ≤ x1 → (ok S a0 0 ∧ (∀ o2, o2 = gR S 5 a0 → (∃ q2, o2 = some q2 ∧ (ok S q2 10 ∧ vp_in x1 (gN S q2) ∧ (∀ o3, o3 = gQ S q2 x1.toNatClampNeg → Q o3 S)))))))))))))
def wX0_setLevels_L6 (c0 : Nat) (c1 : Int32) (c3 : Int32) (c4 : Int32) : Nat → Int32 → Int32 → HS → (Int32 → Int32 → HS → Prop) → Prop
  | 0, _, _, _, _ => False
  | n + 1, m5, m6, S, K => ((c3 ≤ m6 → K m5 m6 S) ∧ (¬ c3 ≤ m6 → (ok S c0 0 ∧ (∀ o1, o1 = gR S 3 c0 → (∃ q1, o1 = some q1 ∧ (ok S q1 1 ∧ (wX1_replace q1 c1 m6 c4 S (fun r1 S1 => ((r1 = c4 → wX0_setLevels_L6 c0 c1 c3 c4 n m5 (m6 + (1 : Int32)) S1 K) ∧ (¬ r1 = c4 → wX0_setLevels_L6 c0 c1 c3 c4 n (m5 + (1 : Int32)) (m6 + (1 : Int32)) S1 K))))))))))
def wX0_setLevels (a0 : Nat) (x1 : Int32) (x2 : Int32) (x3 : Int32) (x4 : Int32) (S : HS) (Q : Int32 → HS → Prop) : Prop := (∃ n1 : Nat, wX0_setLevels_L6 a0 x1 x3 x4 n1 (0 : Int32) x2 S (fun u1 u2 S2 => Q u1 S2))

def wX0_share (a0 : Nat) (p1 : Option Nat) (x2 : Int32) (x3 : Int32) (S : HS) (Q : Int32 → HS → Prop) : Prop := (ok S a0 0 ∧ (∀ o1, o1 = gR S 3 a0 → (∃ q1, o1 = some q1 ∧ (ok S q1 1 ∧ (wX1_at q1 x2 x3 S (fun r1 S1 => (∃ q2, p1 = some q2 ∧ (ok S1 q2 3 ∧ (wX3_shareOf q2 r1 x3 S1 (fun r2 S2 => Q r2 S2))))))))))
def wX0_firstWaitingFor_L2 (c0 : Nat) (c1 : Int32) (Q : Option Nat → HS → Prop) : Nat → Int32 → HS → (Int32 → HS → Prop) → Prop
  | 0, _, _, _ => False
  | n + 1, m2, S, K => (ok S c0 0 ∧ (∀ o1, o1 = gR S 5 c0 → (∃ q1, o1 = some q1 ∧ (ok S q1 10 ∧ (((nI (gN S q1)) ≤ m2 → K m2 S) ∧ (¬ (nI (gN S q1)) ≤ m2 → (ok S c0 0 ∧ (∀ o2, o2 = gR S 5 c0 → (∃ q2, o2 = some q2 ∧ (ok S q2 10 ∧ vp_in m2 (gN S q2) ∧ (∀ o3, o3 = gQ S q2 m2.toNatClampNeg → ((o3 = none → wX0_firstWaitingFor_L2 c0 c1 Q n (m2 + (1 : Int32)) S K) ∧ (∀ q3, o3 = some q3 → (ok S q3 3 ∧ ((¬ (gI S 102 q3) = c1 → wX0_firstWaitingFor_L2 c0 c1 Q n (m2 + (1 : Int32)) S K) ∧ ((gI S 102 q3) = c1 → Q (some q3) S))))))))))))))))
def wX0_firstWaitingFor (a0 : Nat) (x1 : Int32) (S : HS) (Q : Option Nat → HS → Prop) : Prop := (∃ n1 : Nat, wX0_firstWaitingFor_L2 a0 x1 Q n1 (0 : Int32) S (fun u1 S1 => Q none S1))

def wX0_layDot (a0 : Nat) (p1 : Option Nat) (x2 : Int32) (x3 : Int32) (x4 : Int32) (S : HS) (Q : HS → Prop) : Prop := (∃ q1, p1 = some q1 ∧ (ok S q1 3 ∧ (∀ o1, o1 = gR S 101 q1 → (∃ q2, o1 = some q2 ∧ (ok S q2 1 ∧ (wX1_replace q2 x2 x3 x4 S (fun r1 S1 => (ok S1 a0 0 ∧ (∀ o2, o2 = gR S1 4 a0 → (ok S1 a0 0 ∧ (∀ o3, o3 = gR S1 4 a0 → (∃ q3, o3 = some q3 ∧ (ok S1 q3 1 ∧ (wX1_at q3 x2 x3 S1 (fun r2 S2 => (∃ q4, o2 = some q4 ∧ (ok S2 q4 1 ∧ (wX1_replace q4 x2 x3 ((r2 - r1) + x4) S2 (fun r3 S3 => (ok S3 a0 0 ∧ (ok S3 a0 0 ∧ (∀ S4, S4 = sI S3 7 a0 ((gI S3 7 a0) + x4) → Q S4))))))))))))))))))))))

def wX0_inkAt (a0 : Nat) (x1 : Int32) (x2 : Int32) (S : HS) (Q : Int32 → HS → Prop) : Prop := (ok S a0 0 ∧ (∀ o1, o1 = gR S 4 a0 → (∃ q1, o1 = some q1 ∧ (ok S q1 1 ∧ (wX1_at q1 x1 x2 S (fun r1 S1 => (ok S1 a0 0 ∧ Q (if (gI S1 1 a0) < r1 then (gI S1 1 a0) else r1) S1)))))))
def wX0_spiltDots_L12 (c0 : Nat) (c2 : Int32) : Nat → Int32 → Int32 → HS → (Int32 → Int32 → HS → Prop) → Prop
  | 0, _, _, _, _ => False
  | n + 1, m1, m3, S, K => (ok S c0 0 ∧ (((gI S 0 c0) ≤ m3 → K m1 m3 S) ∧ (¬ (gI S 0 c0) ≤ m3 → (ok S c0 0 ∧ (∀ o1, o1 = gR S 4 c0 → (∃ q1, o1 = some q1 ∧ (ok S q1 1 ∧ (wX1_at q1 c2 m3 S (fun r1 S1 => (ok S1 c0 0 ∧ ((r1 ≤ (gI S1 1 c0) → wX0_spiltDots_L12 c0 c2 n m1 (m3 + (1 : Int32)) S1 K) ∧ (¬ r1 ≤ (gI S1 1 c0) → wX0_spiltDots_L12 c0 c2 n (m1 + (1 : Int32)) (m3 + (1 : Int32)) S1 K))))))))))))
def wX0_spiltDots_L4 (c0 : Nat) : Nat → Int32 → Int32 → HS → (Int32 → Int32 → HS → Prop) → Prop
  | 0, _, _, _, _ => False
  | n + 1, m1, m2, S, K => (((8 : Int32) ≤ m2 → K m1 m2 S) ∧ (¬ (8 : Int32) ≤ m2 → (∃ n1 : Nat, wX0_spiltDots_L12 c0 m2 n1 m1 (0 : Int32) S (fun u1 u2 S2 => wX0_spiltDots_L4 c0 n u1 (m2 + (1 : Int32)) S2 K))))
def wX0_spiltDots (a0 : Nat) (S : HS) (Q : Int32 → HS → Prop) : Prop := (∃ n2 : Nat, wX0_spiltDots_L4 a0 n2 (0 : Int32) (0 : Int32) S (fun u3 u4 S3 => Q u3 S3))

def wX0_errorAt (a0 : Nat) (x1 : Int32) (x2 : Int32) (S : HS) (Q : Int32 → HS → Prop) : Prop := (ok S a0 0 ∧ (wX0_inkAt a0 x1 x2 S (fun r1 S1 => (ok S1 a0 0 ∧ (∀ o1, o1 = gR S1 3 a0 → (∃ q1, o1 = some q1 ∧ (ok S1 q1 1 ∧ (wX1_at q1 x1 x2 S1 (fun r2 S2 => Q (if 0 ≤ (r1 - r2) then (r1 - r2) else 0 - (r1 - r2)) S2)))))))))
def wX0_errorSum_L12 (c0 : Nat) (c2 : Int32) : Nat → Int32 → Int32 → HS → (Int32 → Int32 → HS → Prop) → Prop
  | 0, _, _, _, _ => False
  | n + 1, m1, m3, S, K => (ok S c0 0 ∧ (((gI S 0 c0) ≤ m3 → K m1 m3 S) ∧ (¬ (gI S 0 c0) ≤ m3 → (ok S c0 0 ∧ (wX0_errorAt c0 c2 m3 S (fun r1 S1 => wX0_errorSum_L12 c0 c2 n (m1 + r1) (m3 + (1 : Int32)) S1 K))))))
def wX0_errorSum_L4 (c0 : Nat) : Nat → Int32 → Int32 → HS → (Int32 → Int32 → HS → Prop) → Prop
  | 0, _, _, _, _ => False
  | n + 1, m1, m2, S, K => (((8 : Int32) ≤ m2 → K m1 m2 S) ∧ (¬ (8 : Int32) ≤ m2 → (∃ n1 : Nat, wX0_errorSum_L12 c0 m2 n1 m1 (0 : Int32) S (fun u1 u2 S2 => wX0_errorSum_L4 c0 n u1 (m2 + (1 : Int32)) S2 K))))
def wX0_errorSum (a0 : Nat) (S : HS) (Q : Int32 → HS → Prop) : Prop := (∃ n2 : Nat, wX0_errorSum_L4 a0 n2 (0 : Int32) (0 : Int32) S (fun u3 u4 S3 => Q u3 S3))
def wX0_seamError_L45 (c0 : Nat) (c3 : Int32) (c4 : Int32) (c6 : Int32) : Nat → Int32 → Int32 → HS → (Int32 → Int32 → HS → Prop) → Prop
  | 0, _, _, _, _ => False
  | n + 1, m5, m7, S, K => ((c4 < m7 → K m5 m7 S) ∧ (¬ c4 < m7 → (ok S c0 0 ∧ (wX0_errorAt c0 c6 m7 S (fun r1 S1 => wX0_seamError_L45 c0 c3 c4 c6 n (if m5 < r1 then r1 else m5) (m7 + (1 : Int32)) S1 K)))))
def wX0_seamError_L35 (c0 : Nat) (c3 : Int32) (c4 : Int32) : Nat → Int32 → Int32 → HS → (Int32 → Int32 → HS → Prop) → Prop
  | 0, _, _, _, _ => False
  | n + 1, m5, m6, S, K => (((8 : Int32) ≤ m6 → K m5 m6 S) ∧ (¬ (8 : Int32) ≤ m6 → (∃ n1 : Nat, wX0_seamError_L45 c0 c3 c4 m6 n1 m5 c3 S (fun u1 u2 S2 => wX0_seamError_L35 c0 c3 c4 n u1 (m6 + (1 : Int32)) S2 K))))
def wX0_seamError (a0 : Nat) (p1 : Option Nat) (p2 : Option Nat) (S : HS) (Q : Int32 → HS → Prop) : Prop := (∃ q1, p1 = some q1 ∧ (ok S q1 3 ∧ (∃ q2, p2 = some q2 ∧ (ok S q2 3 ∧ (ok S q1 3 ∧ (ok S q2 3 ∧ (∃ n2 : Nat, wX0_seamError_L35 a0 (if (gI S 97 q2) < ((gI S 98 q1) - (1 : Int32)) then (gI S 97 q2) else ((gI S 98 q1) - (1 : Int32))) (if ((gI S 98 q1) - (1 : Int32)) < (gI S 97 q2) then (gI S 97 q2) else ((gI S 98 q1) - (1 : Int32))) n2 (0 : Int32) (0 : Int32) S (fun u3 u4 S3 => Q u3 S3))))))))
theorem kF_RX0_31 : Cond.fieldLink RX0 31 RX0 (TX0 0).2.1 (TX0 0).2.2.1 ∈ T0 := T0_mem (i := 282) (by decide +kernel) (by decide +kernel)
theorem inT_0 : ∀ w ∈ u_ws RX0 TX0 8, w ∈ T0 := inT [294, 296, 298, 300, 302, 304, 306, 308] (by decide +kernel) (by decide +kernel)
theorem kF_RX0_23 : Cond.fieldLink RX0 23 RX0 (TX0 5).2.1 (TX0 5).2.2.1 ∈ T0 := T0_mem (i := 289) (by decide +kernel) (by decide +kernel)
theorem kF_RX0_12 : Cond.fieldLink RX0 12 RX0 (TX0 3).2.1 (TX0 3).2.2.1 ∈ T0 := T0_mem (i := 287) (by decide +kernel) (by decide +kernel)
theorem kC_X1_replace : Cond.code yX1_replace cX1_replace 6 (some .int) ∈ T0 := T0_mem (i := 355) (by decide +kernel) (by decide +kernel)
theorem kM_RX0_52 : Cond.methodLink RX0 52 yX1_replace ∈ T0 := T0_mem (i := 352) (by decide +kernel) (by decide +kernel)
theorem hd_X1_replace : yX1_replace.cls ≠ "java/lang/invoke/MethodHandle" ∧ yX1_replace.cls ≠ "java/lang/invoke/VarHandle" ∧ (parseMethodDescriptor yX1_replace.desc).map (fun d => d.parameters.length) = some 3 := by decide +kernel
theorem kO_X1_replace : Cond.instanceMethod yX1_replace ∈ T0 := T0_mem (i := 353) (by decide +kernel) (by decide +kernel)
theorem kV_X1_replace : Cond.selects RX1 yX1_replace yX1_replace ∈ T0 := T0_mem (i := 354) (by decide +kernel) (by decide +kernel)
theorem kC_X1_at : Cond.code yX1_at cX1_at 4 (some .int) ∈ T0 := T0_mem (i := 389) (by decide +kernel) (by decide +kernel)
theorem kM_RX0_56 : Cond.methodLink RX0 56 yX1_at ∈ T0 := T0_mem (i := 386) (by decide +kernel) (by decide +kernel)
theorem hd_X1_at : yX1_at.cls ≠ "java/lang/invoke/MethodHandle" ∧ yX1_at.cls ≠ "java/lang/invoke/VarHandle" ∧ (parseMethodDescriptor yX1_at.desc).map (fun d => d.parameters.length) = some 2 := by decide +kernel
theorem kO_X1_at : Cond.instanceMethod yX1_at ∈ T0 := T0_mem (i := 387) (by decide +kernel) (by decide +kernel)
theorem kV_X1_at : Cond.selects RX1 yX1_at yX1_at ∈ T0 := T0_mem (i := 388) (by decide +kernel) (by decide +kernel)
theorem kC_X3_shareOf : Cond.code yX3_shareOf cX3_shareOf 3 (some .int) ∈ T0 := T0_mem (i := 393) (by decide +kernel) (by decide +kernel)
theorem kI_RX3 : Cond.initialized RX3 ∈ T0 := T0_mem (i := 44) (by decide +kernel) (by decide +kernel)
theorem kM_RX0_59 : Cond.methodLink RX0 59 yX3_shareOf ∈ T0 := T0_mem (i := 390) (by decide +kernel) (by decide +kernel)
theorem hd_X3_shareOf : yX3_shareOf.cls ≠ "java/lang/invoke/MethodHandle" ∧ yX3_shareOf.cls ≠ "java/lang/invoke/VarHandle" ∧ (parseMethodDescriptor yX3_shareOf.desc).map (fun d => d.parameters.length) = some 2 := by decide +kernel
theorem kO_X3_shareOf : Cond.instanceMethod yX3_shareOf ∈ T0 := T0_mem (i := 391) (by decide +kernel) (by decide +kernel)
theorem kV_X3_shareOf : Cond.selects RX3 yX3_shareOf yX3_shareOf ∈ T0 := T0_mem (i := 392) (by decide +kernel) (by decide +kernel)
theorem kF_RX0_62 : Cond.fieldLinkNest RX0 62 RX3 (TX3 6).2.1 (TX3 6).2.2.1 "StitchBanner" ∈ T0 := T0_mem (i := 254) (by decide +kernel) (by decide +kernel)
theorem kF_RX0_65 : Cond.fieldLinkNest RX0 65 RX3 (TX3 5).2.1 (TX3 5).2.2.1 "StitchBanner" ∈ T0 := T0_mem (i := 252) (by decide +kernel) (by decide +kernel)
theorem kF_RX0_18 : Cond.fieldLink RX0 18 RX0 (TX0 4).2.1 (TX0 4).2.2.1 ∈ T0 := T0_mem (i := 288) (by decide +kernel) (by decide +kernel)
theorem kF_RX0_27 : Cond.fieldLink RX0 27 RX0 (TX0 7).2.1 (TX0 7).2.2.1 ∈ T0 := T0_mem (i := 292) (by decide +kernel) (by decide +kernel)
theorem kF_RX0_34 : Cond.fieldLink RX0 34 RX0 (TX0 1).2.1 (TX0 1).2.2.1 ∈ T0 := T0_mem (i := 284) (by decide +kernel) (by decide +kernel)
theorem kM_RX0_40 : Cond.methodLink RX0 40 Lib.Math.min.name ∈ T0 := T0_mem (i := 231) (by decide +kernel) (by decide +kernel)
theorem kC_X0_inkAt : Cond.code yX0_inkAt cX0_inkAt 3 (some .int) ∈ T0 := T0_mem (i := 559) (by decide +kernel) (by decide +kernel)
theorem kI_RX0 : Cond.initialized RX0 ∈ T0 := T0_mem (i := 41) (by decide +kernel) (by decide +kernel)
theorem kM_RX0_66 : Cond.methodLink RX0 66 yX0_inkAt ∈ T0 := T0_mem (i := 600) (by decide +kernel) (by decide +kernel)
theorem hd_X0_inkAt : yX0_inkAt.cls ≠ "java/lang/invoke/MethodHandle" ∧ yX0_inkAt.cls ≠ "java/lang/invoke/VarHandle" ∧ (parseMethodDescriptor yX0_inkAt.desc).map (fun d => d.parameters.length) = some 2 := by decide +kernel
theorem kO_X0_inkAt : Cond.instanceMethod yX0_inkAt ∈ T0 := T0_mem (i := 557) (by decide +kernel) (by decide +kernel)
theorem kV_X0_inkAt : Cond.selects RX0 yX0_inkAt yX0_inkAt ∈ T0 := T0_mem (i := 558) (by decide +kernel) (by decide +kernel)
theorem kM_RX0_69 : Cond.methodLink RX0 69 Lib.Math.abs.name ∈ T0 := T0_mem (i := 601) (by decide +kernel) (by decide +kernel)
theorem kS_math_abs : Cond.static Lib.Math.abs.name ∈ T0 := T0_mem (i := 602) (by decide +kernel) (by decide +kernel)
theorem kC_math_abs : Cond.code Lib.Math.abs.name Lib.Math.abs.code 1 (some .int) ∈ T0 := T0_mem (i := 603) (by decide +kernel) (by decide +kernel)
theorem kC_X0_errorAt : Cond.code yX0_errorAt cX0_errorAt 3 (some .int) ∈ T0 := T0_mem (i := 599) (by decide +kernel) (by decide +kernel)
theorem kM_RX0_73 : Cond.methodLink RX0 73 yX0_errorAt ∈ T0 := T0_mem (i := 596) (by decide +kernel) (by decide +kernel)
theorem hd_X0_errorAt : yX0_errorAt.cls ≠ "java/lang/invoke/MethodHandle" ∧ yX0_errorAt.cls ≠ "java/lang/invoke/VarHandle" ∧ (parseMethodDescriptor yX0_errorAt.desc).map (fun d => d.parameters.length) = some 2 := by decide +kernel
theorem kO_X0_errorAt : Cond.instanceMethod yX0_errorAt ∈ T0 := T0_mem (i := 598) (by decide +kernel) (by decide +kernel)
theorem kV_X0_errorAt : Cond.selects RX0 yX0_errorAt yX0_errorAt ∈ T0 := T0_mem (i := 10) (by decide +kernel) (by decide +kernel)
theorem kF_RX0_76 : Cond.fieldLinkNest RX0 76 RX3 (TX3 2).2.1 (TX3 2).2.2.1 "StitchBanner" ∈ T0 := T0_mem (i := 247) (by decide +kernel) (by decide +kernel)
theorem kF_RX0_79 : Cond.fieldLinkNest RX0 79 RX3 (TX3 1).2.1 (TX3 1).2.2.1 "StitchBanner" ∈ T0 := T0_mem (i := 244) (by decide +kernel) (by decide +kernel)
theorem kM_RX0_82 : Cond.methodLink RX0 82 Lib.Math.max.name ∈ T0 := T0_mem (i := 595) (by decide +kernel) (by decide +kernel)
theorem kS_math_max : Cond.static Lib.Math.max.name ∈ T0 := T0_mem (i := 532) (by decide +kernel) (by decide +kernel)
theorem kC_math_max : Cond.code Lib.Math.max.name Lib.Math.max.code 2 (some .int) ∈ T0 := T0_mem (i := 533) (by decide +kernel) (by decide +kernel)
set_option maxHeartbeats 4000000 in
set_option maxRecDepth 100000 in
theorem met_X0_hasColumn (l : Launch) (a0 : Nat) (x1 : Int32) : MI l yX0_hasColumn cX0_hasColumn 2 (some .boolean) 0 0 0 0 [.ref a0, .int x1] (wX0_hasColumn a0 x1) := by
  refine MI.of (by decide) (Nat.le_of_ble_eq_true rfl) ?_
  intro p e s m below meth c D cs lo S Q ls B hr hlk hin
  intro h hl hw
  replace hl : lv_has ls 2 [(0, .ref a0), (1, .int x1)] := hl
  refine lv_iload_n B.1.1 B.1.2.1 dX0_hasColumn_0 rfl (lv_at hl 1 rfl) ?_
  refine lv_if_lt (tgt := 16) B.1.1 B.1.2.1 dX0_hasColumn_1 (by decide) (fun hc => ?_) (fun hc => ?_)
  · replace hw := hw.1 hc
    refine lv_iconst (v := (0 : Int32)) B.1.1 B.1.2.1 dX0_hasColumn_16 (by decide) ?_
    exact q_zret B hr hlk h (by decide) hw dX0_hasColumn_17 (Nat.le_of_ble_eq_true rfl) (Nat.le_of_ble_eq_true rfl)
  · replace hw := hw.2 hc
    refine lv_iload_n B.1.1 B.1.2.1 dX0_hasColumn_4 rfl (lv_at hl 1 rfl) ?_
    refine lv_aload_n B.1.1 B.1.2.1 dX0_hasColumn_5 rfl (lv_at hl 0 rfl) ?_
    obtain ⟨hok, hw⟩ := hw
    refine q_getI B h (ci := 0) (j := 0) (code := 0) rfl inT_0 (by decide) kF_RX0_31 rfl rfl rfl (by decide) dX0_hasColumn_6 hok.1 hok.2 ?_
    refine lv_icmp_ge (tgt := 16) B.1.1 B.1.2.1 dX0_hasColumn_9 (by decide) (fun hc => ?_) (fun hc => ?_)
    · replace hw := hw.1 hc
      refine lv_iconst (v := (0 : Int32)) B.1.1 B.1.2.1 dX0_hasColumn_16 (by decide) ?_
      exact q_zret B hr hlk h (by decide) hw dX0_hasColumn_17 (Nat.le_of_ble_eq_true rfl) (Nat.le_of_ble_eq_true rfl)
    · replace hw := hw.2 hc
      refine lv_iconst (v := (1 : Int32)) B.1.1 B.1.2.1 dX0_hasColumn_12 (by decide) ?_
      refine lv_goto (tgt := 17) B.1.1 B.1.2.1 dX0_hasColumn_13 (by decide) ?_
      exact q_zret B hr hlk h (by decide) hw dX0_hasColumn_17 (Nat.le_of_ble_eq_true rfl) (Nat.le_of_ble_eq_true rfl)
set_option maxHeartbeats 4000000 in
set_option maxRecDepth 100000 in
theorem met_X0_stripOf (l : Launch) (a0 : Nat) (x1 : Int32) : MO l yX0_stripOf cX0_stripOf 2 (some (.object "StitchBanner$Strip")) 0 0 0 0 [.ref a0, .int x1] (wX0_stripOf a0 x1) := by
  refine MO.of (by decide) (Nat.le_of_ble_eq_true rfl) ?_
  intro p e s m below meth c D cs lo S Q ls B hr hlk hin
  intro h hl hw
  replace hl : lv_has ls 2 [(0, .ref a0), (1, .int x1)] := hl
  refine lv_iload_n B.1.1 B.1.2.1 dX0_stripOf_0 rfl (lv_at hl 1 rfl) ?_
  refine lv_if_lt (tgt := 22) B.1.1 B.1.2.1 dX0_stripOf_1 (by decide) (fun hc => ?_) (fun hc => ?_)
  · replace hw := hw.1 hc
    refine lv_null B.1.1 B.1.2.1 dX0_stripOf_22 ?_
    exact q_aret B (v := none) hr hlk h hw dX0_stripOf_23 (Nat.le_of_ble_eq_true rfl) (Nat.le_of_ble_eq_true rfl)
  · replace hw := hw.2 hc
    refine lv_iload_n B.1.1 B.1.2.1 dX0_stripOf_4 rfl (lv_at hl 1 rfl) ?_
    refine lv_aload_n B.1.1 B.1.2.1 dX0_stripOf_5 rfl (lv_at hl 0 rfl) ?_
    obtain ⟨hok, hw⟩ := hw
    refine q_getR B h (ci := 0) (j := 5) (code := 5) rfl inT_0 (by decide) kF_RX0_23 rfl rfl rfl (by decide) dX0_stripOf_6 hok.1 hok.2 ?_
    obtain ⟨o1, hoo1⟩ : ∃ z, z = gR S 5 a0 := ⟨_, rfl⟩
    rw [← hoo1]
    replace hw := hw o1 hoo1
    obtain ⟨q1, hn, hw⟩ := hw
    subst hn
    replace hl : lv_has ls 2 [(0, .ref a0), (1, .int x1)] := hl
    obtain ⟨hok, hw⟩ := hw
    refine q_alen B h dX0_stripOf_9 hok.1 (by rw [hok.2]; decide) (by rw [hok.2]; decide) ?_
    refine lv_icmp_ge (tgt := 22) B.1.1 B.1.2.1 dX0_stripOf_10 (by decide) (fun hc => ?_) (fun hc => ?_)
    · replace hw := hw.1 hc
      refine lv_null B.1.1 B.1.2.1 dX0_stripOf_22 ?_
      exact q_aret B (v := none) hr hlk h hw dX0_stripOf_23 (Nat.le_of_ble_eq_true rfl) (Nat.le_of_ble_eq_true rfl)
    · replace hw := hw.2 hc
      refine lv_aload_n B.1.1 B.1.2.1 dX0_stripOf_13 rfl (lv_at hl 0 rfl) ?_
      obtain ⟨hok, hw⟩ := hw
      refine q_getR B h (ci := 0) (j := 5) (code := 5) rfl inT_0 (by decide) kF_RX0_23 rfl rfl rfl (by decide) dX0_stripOf_14 hok.1 hok.2 ?_
      obtain ⟨o2, hoo2⟩ : ∃ z, z = gR S 5 a0 := ⟨_, rfl⟩
      rw [← hoo2]
      replace hw := hw o2 hoo2
      refine lv_iload_n B.1.1 B.1.2.1 dX0_stripOf_17 rfl (lv_at hl 1 rfl) ?_
      obtain ⟨q2, hn, hw⟩ := hw
      subst hn
      replace hl : lv_has ls 2 [(0, .ref a0), (1, .int x1)] := hl
      obtain ⟨hok, hin9, hw⟩ := hw
      refine q_aald B h (kd := 10) (by decide) (by decide) rfl dX0_stripOf_18 hok.1 hok.2 hin9 ?_
      obtain ⟨o3, hoo3⟩ : ∃ z, z = gQ S q2 x1.toNatClampNeg := ⟨_, rfl⟩
      rw [← hoo3]
      replace hw := hw o3 hoo3
      refine lv_goto (tgt := 23) B.1.1 B.1.2.1 dX0_stripOf_19 (by decide) ?_
      exact q_aret B (v := o3) hr hlk h hw dX0_stripOf_23 (Nat.le_of_ble_eq_true rfl) (Nat.le_of_ble_eq_true rfl)
set_option maxHeartbeats 4000000 in
set_option maxRecDepth 100000 in
theorem met_X0_setLevels (l : Launch) (a0 : Nat) (x1 : Int32) (x2 : Int32) (x3 : Int32) (x4 : Int32) : MI l yX0_setLevels cX0_setLevels 7 (some .int) 2 47 0 0 [.ref a0, .int x1, .int x2, .int x3, .int x4] (wX0_setLevels a0 x1 x2 x3 x4) := by
  refine MI.of (by decide) (Nat.le_of_ble_eq_true rfl) ?_
  intro p e s m below meth c D cs lo S Q ls B hr hlk hin
  have L6 : ∀ (c0 : Nat) (c1 : Int32) (c3 : Int32) (c4 : Int32) (K : Int32 → Int32 → HS → Prop) (n : Nat) (m5 : Int32) (m6 : Int32) (S : HS) (H : Heap) (locs : List Loc) (ls : Array Slot), Hx D cs lo s S H locs → lv_has ls 7 [(0, .ref c0), (1, .int c1), (3, .int c3), (4, .int c4), (5, .int m5), (6, .int m6)] → wX0_setLevels_L6 c0 c1 c3 c4 n m5 m6 S K → (∀ (m5 : Int32) (m6 : Int32) (S : HS) (H : Heap) (locs : List Loc) (ls : Array Slot), Hx D cs lo s S H locs → lv_has ls 7 [(0, .ref c0), (1, .int c1), (3, .int c3), (4, .int c4), (5, .int m5), (6, .int m6)] → K m5 m6 S → W p l e ({ frames := 2, cells := 0, slots := 0, locals := 47 } : Room) s m [.ref a0, .int x1, .int x2, .int x3, .int x4].toArray below meth c H locs 0 0 (MQ below (va_Qi Q (fun S' t => hp D cs lo S' t.heap) (fun q => lo ≤ q)) [.ref a0, .int x1, .int x2, .int x3, .int x4].toArray s 0 0 (fun q => lo ≤ q)) (F0 m 38 ls [])) → W p l e ({ frames := 2, cells := 0, slots := 0, locals := 47 } : Room) s m [.ref a0, .int x1, .int x2, .int x3, .int x4].toArray below meth c H locs 0 0 (MQ below (va_Qi Q (fun S' t => hp D cs lo S' t.heap) (fun q => lo ≤ q)) [.ref a0, .int x1, .int x2, .int x3, .int x4].toArray s 0 0 (fun q => lo ≤ q)) (F0 m 6 ls []) := by
    intro c0 c1 c3 c4 K n
    induction n with
    | zero => intro m5 m6 S H locs ls h hl hw hk; exact False.elim hw
    | succ n ih =>
      intro m5 m6 S H locs ls h hl hw hk
      refine lv_iload B.1.1 B.1.2.1 dX0_setLevels_6 (lv_at hl 5 rfl) ?_
      refine lv_iload_n B.1.1 B.1.2.1 dX0_setLevels_8 rfl (lv_at hl 2 rfl) ?_
      refine lv_icmp_ge (tgt := 38) B.1.1 B.1.2.1 dX0_setLevels_9 (by decide) (fun hc => ?_) (fun hc => ?_)
      · replace hw := hw.1 hc
        exact hk m5 m6 _ _ _ ls h (lv_sub hl [0, 1, 2, 3, 4, 5] rfl) hw
      · replace hw := hw.2 hc
        refine lv_aload_n B.1.1 B.1.2.1 dX0_setLevels_12 rfl (lv_at hl 0 rfl) ?_
        obtain ⟨hok, hw⟩ := hw
        refine q_getR B h (ci := 0) (j := 3) (code := 3) rfl inT_0 (by decide) kF_RX0_12 rfl rfl rfl (by decide) dX0_setLevels_13 hok.1 hok.2 ?_
        obtain ⟨o1, hoo1⟩ : ∃ z, z = gR S 3 c0 := ⟨_, rfl⟩
        rw [← hoo1]
        replace hw := hw o1 hoo1
        refine lv_iload_n B.1.1 B.1.2.1 dX0_setLevels_16 rfl (lv_at hl 1 rfl) ?_
        refine lv_iload B.1.1 B.1.2.1 dX0_setLevels_17 (lv_at hl 5 rfl) ?_
        refine lv_iload B.1.1 B.1.2.1 dX0_setLevels_19 (lv_at hl 3 rfl) ?_
        obtain ⟨q1, hn, hw⟩ := hw
        subst hn
        replace hl : lv_has ls 7 [(0, .ref c0), (1, .int c1), (3, .int c3), (4, .int c4), (5, .int m5), (6, .int m6)] := hl
        obtain ⟨hok, hw⟩ := hw
        refine q_callIV B h (met_X1_replace l q1 c1 m6 c4) (CB B 3 kC_X1_replace kI_RX1 kM_RX0_52 hd_X1_replace ⟨Nat.le_of_ble_eq_true rfl, Nat.le_of_ble_eq_true rfl⟩) kO_X1_replace kV_X1_replace (ci := 1) rfl (by decide) hok.1 hok.2 (rest := []) rfl rfl hl.1 (Nat.le_of_ble_eq_true rfl) dX0_setLevels_21 ⟨Nat.le_of_ble_eq_true rfl, Nat.le_of_ble_eq_true rfl⟩ hw (fun r1 S1 H locs hw9 h9 => ?_)
        replace hw := hw9
        clear hw9
        replace h := h9
        clear h9
        refine lv_iload B.1.1 B.1.2.1 dX0_setLevels_24 (lv_at hl 3 rfl) ?_
        refine lv_icmp_eq (tgt := 32) B.1.1 B.1.2.1 dX0_setLevels_26 (by decide) (fun hc => ?_) (fun hc => ?_)
        · replace hw := hw.1 hc
          refine lv_iinc (i := 6) (v := (m6 + (1 : Int32))) (lv' := [(6, .int (m6 + (1 : Int32))), (0, .ref c0), (1, .int c1), (3, .int c3), (4, .int c4), (5, .int m5)]) B.1.1 B.1.2.1 dX0_setLevels_32 hl (k := 5) rfl rfl (by decide) rfl (fun ls hl9 => ?_)
          replace hl := hl9
          clear hl9
          refine lv_goto (tgt := 6) B.1.1 B.1.2.1 dX0_setLevels_35 (by decide) ?_
          exact ih m5 (m6 + (1 : Int32)) _ _ _ ls h (lv_sub hl [1, 2, 3, 4, 5, 0] rfl) hw hk
        · replace hw := hw.2 hc
          refine lv_iinc (i := 5) (v := (m5 + (1 : Int32))) (lv' := [(5, .int (m5 + (1 : Int32))), (0, .ref c0), (1, .int c1), (3, .int c3), (4, .int c4), (6, .int m6)]) B.1.1 B.1.2.1 dX0_setLevels_29 hl (k := 4) rfl rfl (by decide) rfl (fun ls hl9 => ?_)
          replace hl := hl9
          clear hl9
          refine lv_iinc (i := 6) (v := (m6 + (1 : Int32))) (lv' := [(6, .int (m6 + (1 : Int32))), (5, .int (m5 + (1 : Int32))), (0, .ref c0), (1, .int c1), (3, .int c3), (4, .int c4)]) B.1.1 B.1.2.1 dX0_setLevels_32 hl (k := 5) rfl rfl (by decide) rfl (fun ls hl9 => ?_)
          replace hl := hl9
          clear hl9
          refine lv_goto (tgt := 6) B.1.1 B.1.2.1 dX0_setLevels_35 (by decide) ?_
          exact ih (m5 + (1 : Int32)) (m6 + (1 : Int32)) _ _ _ ls h (lv_sub hl [2, 3, 4, 5, 1, 0] rfl) hw hk
  intro h hl hw
  replace hl : lv_has ls 7 [(0, .ref a0), (1, .int x1), (2, .int x2), (3, .int x3), (4, .int x4)] := hl
  refine lv_iconst (v := (0 : Int32)) B.1.1 B.1.2.1 dX0_setLevels_0 (by decide) ?_
  refine lv_istore (i := 5) (lv' := [(5, .int (0 : Int32)), (0, .ref a0), (1, .int x1), (2, .int x2), (3, .int x3), (4, .int x4)]) B.1.1 B.1.2.1 dX0_setLevels_1 hl (by decide) rfl (fun ls hl9 => ?_)
  replace hl := hl9
  clear hl9
  refine lv_iload_n B.1.1 B.1.2.1 dX0_setLevels_3 rfl (lv_at hl 3 rfl) ?_
  refine lv_istore (i := 6) (lv' := [(6, .int x2), (5, .int (0 : Int32)), (0, .ref a0), (1, .int x1), (2, .int x2), (3, .int x3), (4, .int x4)]) B.1.1 B.1.2.1 dX0_setLevels_4 hl (by decide) rfl (fun ls hl9 => ?_)
  replace hl := hl9
  clear hl9
  obtain ⟨n1, hw⟩ := hw
  refine L6 a0 x1 x3 x4 _ n1 (0 : Int32) x2 _ _ _ ls h (lv_sub hl [2, 3, 5, 6, 1, 0] rfl) hw (fun u1 u2 S2 H locs ls h9 hl9 hw9 => ?_)
  replace hw := hw9
  clear hw9
  replace h := h9
  clear h9
  replace hl := hl9
  clear hl9
  refine lv_iload B.1.1 B.1.2.1 dX0_setLevels_38 (lv_at hl 4 rfl) ?_
  exact q_iret B hr hlk h hw dX0_setLevels_40 (Nat.le_of_ble_eq_true rfl) (Nat.le_of_ble_eq_true rfl)
set_option maxHeartbeats 4000000 in
set_option maxRecDepth 100000 in
theorem met_X0_share (l : Launch) (a0 : Nat) (p1 : Option Nat) (x2 : Int32) (x3 : Int32) : MI l yX0_share cX0_share 4 (some .int) 2 45 0 0 [.ref a0, va_rf p1, .int x2, .int x3] (wX0_share a0 p1 x2 x3) := by
  refine MI.of (by decide) (by simp [lg_sl, rf_cat, cat_i, cat_r, cat_n, cat_j, cat_f, cat_d]) ?_
  intro p e s m below meth c D cs lo S Q ls B hr hlk hin
  intro h hl hw
  replace hl : lv_has ls 4 [(0, .ref a0), (1, va_rf p1), (2, .int x2), (3, .int x3)] := by simpa [lv_args, rf_cat, cat_i, cat_r, cat_n, cat_j, cat_f, cat_d] using hl
  refine q_aload_n B.1.1 B.1.2.1 dX0_share_0 rfl (lv_at hl 1 rfl) ?_
  refine lv_aload_n B.1.1 B.1.2.1 dX0_share_1 rfl (lv_at hl 0 rfl) ?_
  obtain ⟨hok, hw⟩ := hw
  refine q_getR B h (ci := 0) (j := 3) (code := 3) rfl inT_0 (by decide) kF_RX0_12 rfl rfl rfl (by decide) dX0_share_2 hok.1 hok.2 ?_
  obtain ⟨o1, hoo1⟩ : ∃ z, z = gR S 3 a0 := ⟨_, rfl⟩
  rw [← hoo1]
  replace hw := hw o1 hoo1
  refine lv_iload_n B.1.1 B.1.2.1 dX0_share_5 rfl (lv_at hl 2 rfl) ?_
  refine lv_iload_n B.1.1 B.1.2.1 dX0_share_6 rfl (lv_at hl 3 rfl) ?_
  obtain ⟨q1, hn, hw⟩ := hw
  subst hn
  replace hl : lv_has ls 4 [(0, .ref a0), (1, va_rf p1), (2, .int x2), (3, .int x3)] := hl
  obtain ⟨hok, hw⟩ := hw
  refine q_callIV B h (met_X1_at l q1 x2 x3) (CB B 2 kC_X1_at kI_RX1 kM_RX0_56 hd_X1_at ⟨Nat.le_of_ble_eq_true rfl, Nat.le_of_ble_eq_true rfl⟩) kO_X1_at kV_X1_at (ci := 1) rfl (by decide) hok.1 hok.2 (rest := [va_rf p1]) rfl rfl hl.1 (by simp [rf_cat, cat_i, cat_r, cat_n, cat_j, cat_f, cat_d]) dX0_share_7 ⟨Nat.le_of_ble_eq_true rfl, Nat.le_of_ble_eq_true rfl⟩ hw (fun r1 S1 H locs hw9 h9 => ?_)
  replace hw := hw9
  clear hw9
  replace h := h9
  clear h9
  refine lv_iload_n B.1.1 B.1.2.1 dX0_share_10 rfl (lv_at hl 3 rfl) ?_
  obtain ⟨q2, hn, hw⟩ := hw
  subst hn
  replace hl : lv_has ls 4 [(0, .ref a0), (1, .ref q2), (2, .int x2), (3, .int x3)] := hl
  obtain ⟨hok, hw⟩ := hw
  refine q_callIV B h (met_X3_shareOf l q2 r1 x3) (CB B 2 kC_X3_shareOf kI_RX3 kM_RX0_59 hd_X3_shareOf ⟨Nat.le_of_ble_eq_true rfl, Nat.le_of_ble_eq_true rfl⟩) kO_X3_shareOf kV_X3_shareOf (ci := 3) rfl (by decide) hok.1 hok.2 (rest := []) rfl rfl hl.1 (Nat.le_of_ble_eq_true rfl) dX0_share_11 ⟨Nat.le_of_ble_eq_true rfl, Nat.le_of_ble_eq_true rfl⟩ hw (fun r2 S2 H locs hw9 h9 => ?_)
  replace hw := hw9
  clear hw9
  replace h := h9
  clear h9
  exact q_iret B hr hlk h hw dX0_share_14 (Nat.le_of_ble_eq_true rfl) (Nat.le_of_ble_eq_true rfl)
set_option maxHeartbeats 4000000 in
set_option maxRecDepth 100000 in
theorem met_X0_firstWaitingFor (l : Launch) (a0 : Nat) (x1 : Int32) : MO l yX0_firstWaitingFor cX0_firstWaitingFor 4 (some (.object "StitchBanner$Strip")) 0 0 0 0 [.ref a0, .int x1] (wX0_firstWaitingFor a0 x1) := by
  refine MO.of (by decide) (Nat.le_of_ble_eq_true rfl) ?_
  intro p e s m below meth c D cs lo S Q ls B hr hlk hin
  have L2 : ∀ (c0 : Nat) (c1 : Int32) (K : Int32 → HS → Prop) (n : Nat) (m2 : Int32) (S : HS) (H : Heap) (locs : List Loc) (ls : Array Slot), Hx D cs lo s S H locs → lv_has ls 4 [(0, .ref c0), (1, .int c1), (2, .int m2)] → wX0_firstWaitingFor_L2 c0 c1 Q n m2 S K → (∀ (m2 : Int32) (S : HS) (H : Heap) (locs : List Loc) (ls : Array Slot), Hx D cs lo s S H locs → lv_has ls 4 [(0, .ref c0), (1, .int c1), (2, .int m2)] → K m2 S → W p l e ({ frames := 0, cells := 0, slots := 0, locals := 0 } : Room) s m [.ref a0, .int x1].toArray below meth c H locs 0 0 (MQ below (va_Qq Q (fun S' t => hp D cs lo S' t.heap) (fun q => lo ≤ q)) [.ref a0, .int x1].toArray s 0 0 (fun q => lo ≤ q)) (F0 m 38 ls [])) → W p l e ({ frames := 0, cells := 0, slots := 0, locals := 0 } : Room) s m [.ref a0, .int x1].toArray below meth c H locs 0 0 (MQ below (va_Qq Q (fun S' t => hp D cs lo S' t.heap) (fun q => lo ≤ q)) [.ref a0, .int x1].toArray s 0 0 (fun q => lo ≤ q)) (F0 m 2 ls []) := by
    intro c0 c1 K n
    induction n with
    | zero => intro m2 S H locs ls h hl hw hk; exact False.elim hw
    | succ n ih =>
      intro m2 S H locs ls h hl hw hk
      refine lv_iload_n B.1.1 B.1.2.1 dX0_firstWaitingFor_2 rfl (lv_at hl 2 rfl) ?_
      refine lv_aload_n B.1.1 B.1.2.1 dX0_firstWaitingFor_3 rfl (lv_at hl 0 rfl) ?_
      obtain ⟨hok, hw⟩ := hw
      refine q_getR B h (ci := 0) (j := 5) (code := 5) rfl inT_0 (by decide) kF_RX0_23 rfl rfl rfl (by decide) dX0_firstWaitingFor_4 hok.1 hok.2 ?_
      obtain ⟨o1, hoo1⟩ : ∃ z, z = gR S 5 c0 := ⟨_, rfl⟩
      rw [← hoo1]
      replace hw := hw o1 hoo1
      obtain ⟨q1, hn, hw⟩ := hw
      subst hn
      replace hl : lv_has ls 4 [(0, .ref c0), (1, .int c1), (2, .int m2)] := hl
      obtain ⟨hok, hw⟩ := hw
      refine q_alen B h dX0_firstWaitingFor_7 hok.1 (by rw [hok.2]; decide) (by rw [hok.2]; decide) ?_
      refine lv_icmp_ge (tgt := 38) B.1.1 B.1.2.1 dX0_firstWaitingFor_8 (by decide) (fun hc => ?_) (fun hc => ?_)
      · replace hw := hw.1 hc
        exact hk m2 _ _ _ ls h (lv_sub hl [0, 1, 2] rfl) hw
      · replace hw := hw.2 hc
        refine lv_aload_n B.1.1 B.1.2.1 dX0_firstWaitingFor_11 rfl (lv_at hl 0 rfl) ?_
        obtain ⟨hok, hw⟩ := hw
        refine q_getR B h (ci := 0) (j := 5) (code := 5) rfl inT_0 (by decide) kF_RX0_23 rfl rfl rfl (by decide) dX0_firstWaitingFor_12 hok.1 hok.2 ?_
        obtain ⟨o2, hoo2⟩ : ∃ z, z = gR S 5 c0 := ⟨_, rfl⟩
        rw [← hoo2]
        replace hw := hw o2 hoo2
        refine lv_iload_n B.1.1 B.1.2.1 dX0_firstWaitingFor_15 rfl (lv_at hl 2 rfl) ?_
        obtain ⟨q2, hn, hw⟩ := hw
        subst hn
        replace hl : lv_has ls 4 [(0, .ref c0), (1, .int c1), (2, .int m2)] := hl
        obtain ⟨hok, hin9, hw⟩ := hw
        refine q_aald B h (kd := 10) (by decide) (by decide) rfl dX0_firstWaitingFor_16 hok.1 hok.2 hin9 ?_
        obtain ⟨o3, hoo3⟩ : ∃ z, z = gQ S q2 m2.toNatClampNeg := ⟨_, rfl⟩
        rw [← hoo3]
        replace hw := hw o3 hoo3
        refine q_astore_n (i := 3) (lv' := [(3, va_rf o3), (0, .ref c0), (1, .int c1), (2, .int m2)]) B.1.1 B.1.2.1 dX0_firstWaitingFor_17 rfl hl (by decide) rfl (fun ls hl9 => ?_)
        replace hl := hl9
        clear hl9
        refine q_aload_n B.1.1 B.1.2.1 dX0_firstWaitingFor_18 rfl (lv_at hl 0 rfl) ?_
        refine q_ifnull (tgt := 32) B.1.1 B.1.2.1 dX0_firstWaitingFor_19 (by decide) (fun hn => ?_) (fun q3 hn => ?_)
        · replace hw := hw.1 hn
          subst hn
          replace hl : lv_has ls 4 [(3, .null), (0, .ref c0), (1, .int c1), (2, .int m2)] := hl
          refine lv_iinc (i := 2) (v := (m2 + (1 : Int32))) (lv' := [(2, .int (m2 + (1 : Int32))), (3, .null), (0, .ref c0), (1, .int c1)]) B.1.1 B.1.2.1 dX0_firstWaitingFor_32 hl (k := 3) rfl rfl (by decide) rfl (fun ls hl9 => ?_)
          replace hl := hl9
          clear hl9
          refine lv_goto (tgt := 2) B.1.1 B.1.2.1 dX0_firstWaitingFor_35 (by decide) ?_
          exact ih (m2 + (1 : Int32)) _ _ _ ls h (lv_sub hl [2, 3, 0] rfl) hw hk
        · replace hw := hw.2 q3 hn
          subst hn
          replace hl : lv_has ls 4 [(3, .ref q3), (0, .ref c0), (1, .int c1), (2, .int m2)] := hl
          refine lv_aload_n B.1.1 B.1.2.1 dX0_firstWaitingFor_22 rfl (lv_at hl 0 rfl) ?_
          obtain ⟨hok, hw⟩ := hw
          refine q_getIN B h (ci := 3) (j := 6) (code := 102) rfl inT_3 (by decide) kF_RX0_62 rfl rfl rfl (by decide) dX0_firstWaitingFor_23 hok.1 hok.2 ?_
          refine lv_iload_n B.1.1 B.1.2.1 dX0_firstWaitingFor_26 rfl (lv_at hl 2 rfl) ?_
          refine lv_icmp_ne (tgt := 32) B.1.1 B.1.2.1 dX0_firstWaitingFor_27 (by decide) (fun hc => ?_) (fun hc => ?_)
          · replace hw := hw.1 hc
            refine lv_iinc (i := 2) (v := (m2 + (1 : Int32))) (lv' := [(2, .int (m2 + (1 : Int32))), (3, .ref q3), (0, .ref c0), (1, .int c1)]) B.1.1 B.1.2.1 dX0_firstWaitingFor_32 hl (k := 3) rfl rfl (by decide) rfl (fun ls hl9 => ?_)
            replace hl := hl9
            clear hl9
            refine lv_goto (tgt := 2) B.1.1 B.1.2.1 dX0_firstWaitingFor_35 (by decide) ?_
            exact ih (m2 + (1 : Int32)) _ _ _ ls h (lv_sub hl [2, 3, 0] rfl) hw hk
          · replace hw := hw.2 hc
            refine lv_aload_n B.1.1 B.1.2.1 dX0_firstWaitingFor_30 rfl (lv_at hl 0 rfl) ?_
            exact q_aret B (v := (some q3)) hr hlk h hw dX0_firstWaitingFor_31 (Nat.le_of_ble_eq_true rfl) (Nat.le_of_ble_eq_true rfl)
  intro h hl hw
  replace hl : lv_has ls 4 [(0, .ref a0), (1, .int x1)] := hl
  refine lv_iconst (v := (0 : Int32)) B.1.1 B.1.2.1 dX0_firstWaitingFor_0 (by decide) ?_
  refine lv_istore_n (i := 2) (lv' := [(2, .int (0 : Int32)), (0, .ref a0), (1, .int x1)]) B.1.1 B.1.2.1 dX0_firstWaitingFor_1 rfl hl (by decide) rfl (fun ls hl9 => ?_)
  replace hl := hl9
  clear hl9
  obtain ⟨n1, hw⟩ := hw
  refine L2 a0 x1 _ n1 (0 : Int32) _ _ _ ls h (lv_sub hl [1, 2, 0] rfl) hw (fun u1 S1 H locs ls h9 hl9 hw9 => ?_)
  replace hw := hw9
  clear hw9
  replace h := h9
  clear h9
  replace hl := hl9
  clear hl9
  refine lv_null B.1.1 B.1.2.1 dX0_firstWaitingFor_38 ?_
  exact q_aret B (v := none) hr hlk h hw dX0_firstWaitingFor_39 (Nat.le_of_ble_eq_true rfl) (Nat.le_of_ble_eq_true rfl)
set_option maxHeartbeats 4000000 in
set_option maxRecDepth 100000 in
theorem met_X0_layDot (l : Launch) (a0 : Nat) (p1 : Option Nat) (x2 : Int32) (x3 : Int32) (x4 : Int32) : MV l yX0_layDot cX0_layDot 6 none 2 47 0 0 [.ref a0, va_rf p1, .int x2, .int x3, .int x4] (wX0_layDot a0 p1 x2 x3 x4) := by
  refine MV.of (by decide) (by simp [lg_sl, rf_cat, cat_i, cat_r, cat_n, cat_j, cat_f, cat_d]) ?_
  intro p e s m below meth c D cs lo S Q ls B hr hlk hin
  intro h hl hw
  replace hl : lv_has ls 6 [(0, .ref a0), (1, va_rf p1), (2, .int x2), (3, .int x3), (4, .int x4)] := by simpa [lv_args, rf_cat, cat_i, cat_r, cat_n, cat_j, cat_f, cat_d] using hl
  refine q_aload_n B.1.1 B.1.2.1 dX0_layDot_0 rfl (lv_at hl 1 rfl) ?_
  obtain ⟨q1, hn, hw⟩ := hw
  subst hn
  replace hl : lv_has ls 6 [(0, .ref a0), (1, .ref q1), (2, .int x2), (3, .int x3), (4, .int x4)] := hl
  obtain ⟨hok, hw⟩ := hw
  refine q_getRN B h (ci := 3) (j := 5) (code := 101) rfl inT_3 (by decide) kF_RX0_65 rfl rfl rfl (by decide) dX0_layDot_1 hok.1 hok.2 ?_
  obtain ⟨o1, hoo1⟩ : ∃ z, z = gR S 101 q1 := ⟨_, rfl⟩
  rw [← hoo1]
  replace hw := hw o1 hoo1
  refine lv_iload_n B.1.1 B.1.2.1 dX0_layDot_4 rfl (lv_at hl 2 rfl) ?_
  refine lv_iload_n B.1.1 B.1.2.1 dX0_layDot_5 rfl (lv_at hl 3 rfl) ?_
  refine lv_iload B.1.1 B.1.2.1 dX0_layDot_6 (lv_at hl 4 rfl) ?_
  obtain ⟨q2, hn, hw⟩ := hw
  subst hn
  replace hl : lv_has ls 6 [(0, .ref a0), (1, .ref q1), (2, .int x2), (3, .int x3), (4, .int x4)] := hl
  obtain ⟨hok, hw⟩ := hw
  refine q_callIV B h (met_X1_replace l q2 x2 x3 x4) (CB B 3 kC_X1_replace kI_RX1 kM_RX0_52 hd_X1_replace ⟨Nat.le_of_ble_eq_true rfl, Nat.le_of_ble_eq_true rfl⟩) kO_X1_replace kV_X1_replace (ci := 1) rfl (by decide) hok.1 hok.2 (rest := []) rfl rfl hl.1 (Nat.le_of_ble_eq_true rfl) dX0_layDot_8 ⟨Nat.le_of_ble_eq_true rfl, Nat.le_of_ble_eq_true rfl⟩ hw (fun r1 S1 H locs hw9 h9 => ?_)
  replace hw := hw9
  clear hw9
  replace h := h9
  clear h9
  refine lv_istore (i := 5) (lv' := [(5, .int r1), (0, .ref a0), (1, .ref q1), (2, .int x2), (3, .int x3), (4, .int x4)]) B.1.1 B.1.2.1 dX0_layDot_11 hl (by decide) rfl (fun ls hl9 => ?_)
  replace hl := hl9
  clear hl9
  refine lv_aload_n B.1.1 B.1.2.1 dX0_layDot_13 rfl (lv_at hl 1 rfl) ?_
  obtain ⟨hok, hw⟩ := hw
  refine q_getR B h (ci := 0) (j := 4) (code := 4) rfl inT_0 (by decide) kF_RX0_18 rfl rfl rfl (by decide) dX0_layDot_14 hok.1 hok.2 ?_
  obtain ⟨o2, hoo2⟩ : ∃ z, z = gR S1 4 a0 := ⟨_, rfl⟩
  rw [← hoo2]
  replace hw := hw o2 hoo2
  refine lv_iload_n B.1.1 B.1.2.1 dX0_layDot_17 rfl (lv_at hl 3 rfl) ?_
  refine lv_iload_n B.1.1 B.1.2.1 dX0_layDot_18 rfl (lv_at hl 4 rfl) ?_
  refine lv_aload_n B.1.1 B.1.2.1 dX0_layDot_19 rfl (lv_at hl 1 rfl) ?_
  obtain ⟨hok, hw⟩ := hw
  refine q_getR B h (ci := 0) (j := 4) (code := 4) rfl inT_0 (by decide) kF_RX0_18 rfl rfl rfl (by decide) dX0_layDot_20 hok.1 hok.2 ?_
  obtain ⟨o3, hoo3⟩ : ∃ z, z = gR S1 4 a0 := ⟨_, rfl⟩
  rw [← hoo3]
  replace hw := hw o3 hoo3
  refine lv_iload_n B.1.1 B.1.2.1 dX0_layDot_23 rfl (lv_at hl 3 rfl) ?_
  refine lv_iload_n B.1.1 B.1.2.1 dX0_layDot_24 rfl (lv_at hl 4 rfl) ?_
  obtain ⟨q3, hn, hw⟩ := hw
  subst hn
  replace hl : lv_has ls 6 [(5, .int r1), (0, .ref a0), (1, .ref q1), (2, .int x2), (3, .int x3), (4, .int x4)] := hl
  obtain ⟨hok, hw⟩ := hw
  refine q_callIV B h (met_X1_at l q3 x2 x3) (CB B 2 kC_X1_at kI_RX1 kM_RX0_56 hd_X1_at ⟨Nat.le_of_ble_eq_true rfl, Nat.le_of_ble_eq_true rfl⟩) kO_X1_at kV_X1_at (ci := 1) rfl (by decide) hok.1 hok.2 (rest := [.int x3, .int x2, va_rf o2]) rfl rfl hl.1 (by simp [rf_cat, cat_i, cat_r, cat_n, cat_j, cat_f, cat_d]) dX0_layDot_25 ⟨Nat.le_of_ble_eq_true rfl, Nat.le_of_ble_eq_true rfl⟩ hw (fun r2 S2 H locs hw9 h9 => ?_)
  replace hw := hw9
  clear hw9
  replace h := h9
  clear h9
  refine lv_iload B.1.1 B.1.2.1 dX0_layDot_28 (lv_at hl 0 rfl) ?_
  refine lv_isub B.1.1 B.1.2.1 dX0_layDot_30 ?_
  refine lv_iload B.1.1 B.1.2.1 dX0_layDot_31 (lv_at hl 5 rfl) ?_
  refine lv_iadd B.1.1 B.1.2.1 dX0_layDot_33 ?_
  obtain ⟨q4, hn, hw⟩ := hw
  subst hn
  replace hl : lv_has ls 6 [(5, .int r1), (0, .ref a0), (1, .ref q1), (2, .int x2), (3, .int x3), (4, .int x4)] := hl
  obtain ⟨hok, hw⟩ := hw
  refine q_callIV B h (met_X1_replace l q4 x2 x3 ((r2 - r1) + x4)) (CB B 3 kC_X1_replace kI_RX1 kM_RX0_52 hd_X1_replace ⟨Nat.le_of_ble_eq_true rfl, Nat.le_of_ble_eq_true rfl⟩) kO_X1_replace kV_X1_replace (ci := 1) rfl (by decide) hok.1 hok.2 (rest := []) rfl rfl hl.1 (Nat.le_of_ble_eq_true rfl) dX0_layDot_34 ⟨Nat.le_of_ble_eq_true rfl, Nat.le_of_ble_eq_true rfl⟩ hw (fun r3 S3 H locs hw9 h9 => ?_)
  replace hw := hw9
  clear hw9
  replace h := h9
  clear h9
  refine lv_pop B.1.1 B.1.2.1 dX0_layDot_37 rfl ?_
  refine lv_aload_n B.1.1 B.1.2.1 dX0_layDot_38 rfl (lv_at hl 1 rfl) ?_
  refine lv_dup B.1.1 B.1.2.1 dX0_layDot_39 rfl ?_
  obtain ⟨hok, hw⟩ := hw
  refine q_getI B h (ci := 0) (j := 7) (code := 7) rfl inT_0 (by decide) kF_RX0_27 rfl rfl rfl (by decide) dX0_layDot_40 hok.1 hok.2 ?_
  refine lv_iload B.1.1 B.1.2.1 dX0_layDot_43 (lv_at hl 5 rfl) ?_
  refine lv_iadd B.1.1 B.1.2.1 dX0_layDot_45 ?_
  obtain ⟨hok, hw⟩ := hw
  refine q_putI B h (ci := 0) (j := 7) (code := 7) (v := ((gI S3 7 a0) + x4)) rfl inT_0 tyX0 tyX0_ok nmX0 (by decide) kF_RX0_27 rfl rfl rfl rfl (by decide) (by first | rfl | decide) (by first | rfl | decide) dX0_layDot_46 hok.1 hok.2 (fun H locs h9 => ?_)
  obtain ⟨S4, hS4, hh⟩ : ∃ z, z = sI S3 7 a0 ((gI S3 7 a0) + x4) ∧ Hx D cs lo s z H _ := ⟨_, rfl, h9⟩
  clear h9
  replace h := hh
  clear hh
  replace hw := hw S4 hS4
  exact q_vret B hr hlk h hw dX0_layDot_49 (Nat.le_of_ble_eq_true rfl) (Nat.le_of_ble_eq_true rfl)
set_option maxHeartbeats 4000000 in
set_option maxRecDepth 100000 in
theorem met_X0_inkAt (l : Launch) (a0 : Nat) (x1 : Int32) (x2 : Int32) : MI l yX0_inkAt cX0_inkAt 3 (some .int) 2 45 0 0 [.ref a0, .int x1, .int x2] (wX0_inkAt a0 x1 x2) := by
  refine MI.of (by decide) (Nat.le_of_ble_eq_true rfl) ?_
  intro p e s m below meth c D cs lo S Q ls B hr hlk hin
  intro h hl hw
  replace hl : lv_has ls 3 [(0, .ref a0), (1, .int x1), (2, .int x2)] := hl
  refine lv_aload_n B.1.1 B.1.2.1 dX0_inkAt_0 rfl (lv_at hl 0 rfl) ?_
  obtain ⟨hok, hw⟩ := hw
  refine q_getR B h (ci := 0) (j := 4) (code := 4) rfl inT_0 (by decide) kF_RX0_18 rfl rfl rfl (by decide) dX0_inkAt_1 hok.1 hok.2 ?_
  obtain ⟨o1, hoo1⟩ : ∃ z, z = gR S 4 a0 := ⟨_, rfl⟩
  rw [← hoo1]
  replace hw := hw o1 hoo1
  refine lv_iload_n B.1.1 B.1.2.1 dX0_inkAt_4 rfl (lv_at hl 1 rfl) ?_
  refine lv_iload_n B.1.1 B.1.2.1 dX0_inkAt_5 rfl (lv_at hl 2 rfl) ?_
  obtain ⟨q1, hn, hw⟩ := hw
  subst hn
  replace hl : lv_has ls 3 [(0, .ref a0), (1, .int x1), (2, .int x2)] := hl
  obtain ⟨hok, hw⟩ := hw
  refine q_callIV B h (met_X1_at l q1 x1 x2) (CB B 2 kC_X1_at kI_RX1 kM_RX0_56 hd_X1_at ⟨Nat.le_of_ble_eq_true rfl, Nat.le_of_ble_eq_true rfl⟩) kO_X1_at kV_X1_at (ci := 1) rfl (by decide) hok.1 hok.2 (rest := []) rfl rfl hl.1 (Nat.le_of_ble_eq_true rfl) dX0_inkAt_6 ⟨Nat.le_of_ble_eq_true rfl, Nat.le_of_ble_eq_true rfl⟩ hw (fun r1 S1 H locs hw9 h9 => ?_)
  replace hw := hw9
  clear hw9
  replace h := h9
  clear h9
  refine lv_aload_n B.1.1 B.1.2.1 dX0_inkAt_9 rfl (lv_at hl 0 rfl) ?_
  obtain ⟨hok, hw⟩ := hw
  refine q_getI B h (ci := 0) (j := 1) (code := 1) rfl inT_0 (by decide) kF_RX0_34 rfl rfl rfl (by decide) dX0_inkAt_10 hok.1 hok.2 ?_
  refine q_min B kM_RX0_40 kS_math_min kI_java_lang_Math kC_math_min hl.1 (Nat.le_of_ble_eq_true rfl) (Nat.le_of_ble_eq_true rfl) (Nat.le_of_ble_eq_true rfl) (Nat.le_of_ble_eq_true rfl) dX0_inkAt_13 ?_
  exact q_iret B hr hlk h hw dX0_inkAt_16 (Nat.le_of_ble_eq_true rfl) (Nat.le_of_ble_eq_true rfl)
set_option maxHeartbeats 4000000 in
set_option maxRecDepth 100000 in
theorem met_X0_spiltDots (l : Launch) (a0 : Nat) : MI l yX0_spiltDots cX0_spiltDots 4 (some .int) 2 45 0 0 [.ref a0] (wX0_spiltDots a0) := by
  refine MI.of (by decide) (Nat.le_of_ble_eq_true rfl) ?_
  intro p e s m below meth c D cs lo S Q ls B hr hlk hin
  have L12 : ∀ (c0 : Nat) (c2 : Int32) (K : Int32 → Int32 → HS → Prop) (n : Nat) (m1 : Int32) (m3 : Int32) (S : HS) (H : Heap) (locs : List Loc) (ls : Array Slot), Hx D cs lo s S H locs → lv_has ls 4 [(0, .ref c0), (1, .int m1), (2, .int c2), (3, .int m3)] → wX0_spiltDots_L12 c0 c2 n m1 m3 S K → (∀ (m1 : Int32) (m3 : Int32) (S : HS) (H : Heap) (locs : List Loc) (ls : Array Slot), Hx D cs lo s S H locs → lv_has ls 4 [(0, .ref c0), (1, .int m1), (2, .int c2), (3, .int m3)] → K m1 m3 S → W p l e ({ frames := 2, cells := 0, slots := 0, locals := 45 } : Room) s m [.ref a0].toArray below meth c H locs 0 0 (MQ below (va_Qi Q (fun S' t => hp D cs lo S' t.heap) (fun q => lo ≤ q)) [.ref a0].toArray s 0 0 (fun q => lo ≤ q)) (F0 m 45 ls [])) → W p l e ({ frames := 2, cells := 0, slots := 0, locals := 45 } : Room) s m [.ref a0].toArray below meth c H locs 0 0 (MQ below (va_Qi Q (fun S' t => hp D cs lo S' t.heap) (fun q => lo ≤ q)) [.ref a0].toArray s 0 0 (fun q => lo ≤ q)) (F0 m 12 ls []) := by
    intro c0 c2 K n
    induction n with
    | zero => intro m1 m3 S H locs ls h hl hw hk; exact False.elim hw
    | succ n ih =>
      intro m1 m3 S H locs ls h hl hw hk
      refine lv_iload_n B.1.1 B.1.2.1 dX0_spiltDots_12 rfl (lv_at hl 3 rfl) ?_
      refine lv_aload_n B.1.1 B.1.2.1 dX0_spiltDots_13 rfl (lv_at hl 0 rfl) ?_
      obtain ⟨hok, hw⟩ := hw
      refine q_getI B h (ci := 0) (j := 0) (code := 0) rfl inT_0 (by decide) kF_RX0_31 rfl rfl rfl (by decide) dX0_spiltDots_14 hok.1 hok.2 ?_
      refine lv_icmp_ge (tgt := 45) B.1.1 B.1.2.1 dX0_spiltDots_17 (by decide) (fun hc => ?_) (fun hc => ?_)
      · replace hw := hw.1 hc
        exact hk m1 m3 _ _ _ ls h (lv_sub hl [0, 1, 2, 3] rfl) hw
      · replace hw := hw.2 hc
        refine lv_aload_n B.1.1 B.1.2.1 dX0_spiltDots_20 rfl (lv_at hl 0 rfl) ?_
        obtain ⟨hok, hw⟩ := hw
        refine q_getR B h (ci := 0) (j := 4) (code := 4) rfl inT_0 (by decide) kF_RX0_18 rfl rfl rfl (by decide) dX0_spiltDots_21 hok.1 hok.2 ?_
        obtain ⟨o1, hoo1⟩ : ∃ z, z = gR S 4 c0 := ⟨_, rfl⟩
        rw [← hoo1]
        replace hw := hw o1 hoo1
        refine lv_iload_n B.1.1 B.1.2.1 dX0_spiltDots_24 rfl (lv_at hl 2 rfl) ?_
        refine lv_iload_n B.1.1 B.1.2.1 dX0_spiltDots_25 rfl (lv_at hl 3 rfl) ?_
        obtain ⟨q1, hn, hw⟩ := hw
        subst hn
        replace hl : lv_has ls 4 [(0, .ref c0), (1, .int m1), (2, .int c2), (3, .int m3)] := hl
        obtain ⟨hok, hw⟩ := hw
        refine q_callIV B h (met_X1_at l q1 c2 m3) (CB B 2 kC_X1_at kI_RX1 kM_RX0_56 hd_X1_at ⟨Nat.le_of_ble_eq_true rfl, Nat.le_of_ble_eq_true rfl⟩) kO_X1_at kV_X1_at (ci := 1) rfl (by decide) hok.1 hok.2 (rest := []) rfl rfl hl.1 (Nat.le_of_ble_eq_true rfl) dX0_spiltDots_26 ⟨Nat.le_of_ble_eq_true rfl, Nat.le_of_ble_eq_true rfl⟩ hw (fun r1 S1 H locs hw9 h9 => ?_)
        replace hw := hw9
        clear hw9
        replace h := h9
        clear h9
        refine lv_aload_n B.1.1 B.1.2.1 dX0_spiltDots_29 rfl (lv_at hl 0 rfl) ?_
        obtain ⟨hok, hw⟩ := hw
        refine q_getI B h (ci := 0) (j := 1) (code := 1) rfl inT_0 (by decide) kF_RX0_34 rfl rfl rfl (by decide) dX0_spiltDots_30 hok.1 hok.2 ?_
        refine lv_icmp_le (tgt := 39) B.1.1 B.1.2.1 dX0_spiltDots_33 (by decide) (fun hc => ?_) (fun hc => ?_)
        · replace hw := hw.1 hc
          refine lv_iinc (i := 3) (v := (m3 + (1 : Int32))) (lv' := [(3, .int (m3 + (1 : Int32))), (0, .ref c0), (1, .int m1), (2, .int c2)]) B.1.1 B.1.2.1 dX0_spiltDots_39 hl (k := 3) rfl rfl (by decide) rfl (fun ls hl9 => ?_)
          replace hl := hl9
          clear hl9
          refine lv_goto (tgt := 12) B.1.1 B.1.2.1 dX0_spiltDots_42 (by decide) ?_
          exact ih m1 (m3 + (1 : Int32)) _ _ _ ls h (lv_sub hl [1, 2, 3, 0] rfl) hw hk
        · replace hw := hw.2 hc
          refine lv_iinc (i := 1) (v := (m1 + (1 : Int32))) (lv' := [(1, .int (m1 + (1 : Int32))), (0, .ref c0), (2, .int c2), (3, .int m3)]) B.1.1 B.1.2.1 dX0_spiltDots_36 hl (k := 1) rfl rfl (by decide) rfl (fun ls hl9 => ?_)
          replace hl := hl9
          clear hl9
          refine lv_iinc (i := 3) (v := (m3 + (1 : Int32))) (lv' := [(3, .int (m3 + (1 : Int32))), (1, .int (m1 + (1 : Int32))), (0, .ref c0), (2, .int c2)]) B.1.1 B.1.2.1 dX0_spiltDots_39 hl (k := 3) rfl rfl (by decide) rfl (fun ls hl9 => ?_)
          replace hl := hl9
          clear hl9
          refine lv_goto (tgt := 12) B.1.1 B.1.2.1 dX0_spiltDots_42 (by decide) ?_
          exact ih (m1 + (1 : Int32)) (m3 + (1 : Int32)) _ _ _ ls h (lv_sub hl [2, 1, 3, 0] rfl) hw hk
  have L4 : ∀ (c0 : Nat) (K : Int32 → Int32 → HS → Prop) (n : Nat) (m1 : Int32) (m2 : Int32) (S : HS) (H : Heap) (locs : List Loc) (ls : Array Slot), Hx D cs lo s S H locs → lv_has ls 4 [(0, .ref c0), (1, .int m1), (2, .int m2)] → wX0_spiltDots_L4 c0 n m1 m2 S K → (∀ (m1 : Int32) (m2 : Int32) (S : HS) (H : Heap) (locs : List Loc) (ls : Array Slot), Hx D cs lo s S H locs → lv_has ls 4 [(0, .ref c0), (1, .int m1), (2, .int m2)] → K m1 m2 S → W p l e ({ frames := 2, cells := 0, slots := 0, locals := 45 } : Room) s m [.ref a0].toArray below meth c H locs 0 0 (MQ below (va_Qi Q (fun S' t => hp D cs lo S' t.heap) (fun q => lo ≤ q)) [.ref a0].toArray s 0 0 (fun q => lo ≤ q)) (F0 m 51 ls [])) → W p l e ({ frames := 2, cells := 0, slots := 0, locals := 45 } : Room) s m [.ref a0].toArray below meth c H locs 0 0 (MQ below (va_Qi Q (fun S' t => hp D cs lo S' t.heap) (fun q => lo ≤ q)) [.ref a0].toArray s 0 0 (fun q => lo ≤ q)) (F0 m 4 ls []) := by
    intro c0 K n
    induction n with
    | zero => intro m1 m2 S H locs ls h hl hw hk; exact False.elim hw
    | succ n ih =>
      intro m1 m2 S H locs ls h hl hw hk
      refine lv_iload_n B.1.1 B.1.2.1 dX0_spiltDots_4 rfl (lv_at hl 2 rfl) ?_
      refine lv_bipush (v := (8 : Int32)) B.1.1 B.1.2.1 dX0_spiltDots_5 (by decide) ?_
      refine lv_icmp_ge (tgt := 51) B.1.1 B.1.2.1 dX0_spiltDots_7 (by decide) (fun hc => ?_) (fun hc => ?_)
      · replace hw := hw.1 hc
        exact hk m1 m2 _ _ _ ls h (lv_sub hl [0, 1, 2] rfl) hw
      · replace hw := hw.2 hc
        refine lv_iconst (v := (0 : Int32)) B.1.1 B.1.2.1 dX0_spiltDots_10 (by decide) ?_
        refine lv_istore_n (i := 3) (lv' := [(3, .int (0 : Int32)), (0, .ref c0), (1, .int m1), (2, .int m2)]) B.1.1 B.1.2.1 dX0_spiltDots_11 rfl hl (by decide) rfl (fun ls hl9 => ?_)
        replace hl := hl9
        clear hl9
        obtain ⟨n1, hw⟩ := hw
        refine L12 c0 m2 _ n1 m1 (0 : Int32) _ _ _ ls h (lv_sub hl [1, 2, 3, 0] rfl) hw (fun u1 u2 S2 H locs ls h9 hl9 hw9 => ?_)
        replace hw := hw9
        clear hw9
        replace h := h9
        clear h9
        replace hl := hl9
        clear hl9
        refine lv_iinc (i := 2) (v := (m2 + (1 : Int32))) (lv' := [(2, .int (m2 + (1 : Int32))), (0, .ref c0), (1, .int u1), (3, .int u2)]) B.1.1 B.1.2.1 dX0_spiltDots_45 hl (k := 2) rfl rfl (by decide) rfl (fun ls hl9 => ?_)
        replace hl := hl9
        clear hl9
        refine lv_goto (tgt := 4) B.1.1 B.1.2.1 dX0_spiltDots_48 (by decide) ?_
        exact ih u1 (m2 + (1 : Int32)) _ _ _ ls h (lv_sub hl [1, 2, 0] rfl) hw hk
  intro h hl hw
  replace hl : lv_has ls 4 [(0, .ref a0)] := hl
  refine lv_iconst (v := (0 : Int32)) B.1.1 B.1.2.1 dX0_spiltDots_0 (by decide) ?_
  refine lv_istore_n (i := 1) (lv' := [(1, .int (0 : Int32)), (0, .ref a0)]) B.1.1 B.1.2.1 dX0_spiltDots_1 rfl hl (by decide) rfl (fun ls hl9 => ?_)
  replace hl := hl9
  clear hl9
  refine lv_iconst (v := (0 : Int32)) B.1.1 B.1.2.1 dX0_spiltDots_2 (by decide) ?_
  refine lv_istore_n (i := 2) (lv' := [(2, .int (0 : Int32)), (1, .int (0 : Int32)), (0, .ref a0)]) B.1.1 B.1.2.1 dX0_spiltDots_3 rfl hl (by decide) rfl (fun ls hl9 => ?_)
  replace hl := hl9
  clear hl9
  obtain ⟨n2, hw⟩ := hw
  refine L4 a0 _ n2 (0 : Int32) (0 : Int32) _ _ _ ls h (lv_sub hl [2, 1, 0] rfl) hw (fun u3 u4 S3 H locs ls h9 hl9 hw9 => ?_)
  replace hw := hw9
  clear hw9
  replace h := h9
  clear h9
  replace hl := hl9
  clear hl9
  refine lv_iload_n B.1.1 B.1.2.1 dX0_spiltDots_51 rfl (lv_at hl 1 rfl) ?_
  exact q_iret B hr hlk h hw dX0_spiltDots_52 (Nat.le_of_ble_eq_true rfl) (Nat.le_of_ble_eq_true rfl)
set_option maxHeartbeats 4000000 in
set_option maxRecDepth 100000 in
theorem met_X0_errorAt (l : Launch) (a0 : Nat) (x1 : Int32) (x2 : Int32) : MI l yX0_errorAt cX0_errorAt 3 (some .int) 3 67 0 0 [.ref a0, .int x1, .int x2] (wX0_errorAt a0 x1 x2) := by
  refine MI.of (by decide) (Nat.le_of_ble_eq_true rfl) ?_
  intro p e s m below meth c D cs lo S Q ls B hr hlk hin
  intro h hl hw
  replace hl : lv_has ls 3 [(0, .ref a0), (1, .int x1), (2, .int x2)] := hl
  refine lv_aload_n B.1.1 B.1.2.1 dX0_errorAt_0 rfl (lv_at hl 0 rfl) ?_
  refine lv_iload_n B.1.1 B.1.2.1 dX0_errorAt_1 rfl (lv_at hl 1 rfl) ?_
  refine lv_iload_n B.1.1 B.1.2.1 dX0_errorAt_2 rfl (lv_at hl 2 rfl) ?_
  obtain ⟨hok, hw⟩ := hw
  refine q_callIV B h (met_X0_inkAt l a0 x1 x2) (CB B 2 kC_X0_inkAt kI_RX0 kM_RX0_66 hd_X0_inkAt ⟨Nat.le_of_ble_eq_true rfl, Nat.le_of_ble_eq_true rfl⟩) kO_X0_inkAt kV_X0_inkAt (ci := 0) rfl (by decide) hok.1 hok.2 (rest := []) rfl rfl hl.1 (Nat.le_of_ble_eq_true rfl) dX0_errorAt_3 ⟨Nat.le_of_ble_eq_true rfl, Nat.le_of_ble_eq_true rfl⟩ hw (fun r1 S1 H locs hw9 h9 => ?_)
  replace hw := hw9
  clear hw9
  replace h := h9
  clear h9
  refine lv_aload_n B.1.1 B.1.2.1 dX0_errorAt_6 rfl (lv_at hl 0 rfl) ?_
  obtain ⟨hok, hw⟩ := hw
  refine q_getR B h (ci := 0) (j := 3) (code := 3) rfl inT_0 (by decide) kF_RX0_12 rfl rfl rfl (by decide) dX0_errorAt_7 hok.1 hok.2 ?_
  obtain ⟨o1, hoo1⟩ : ∃ z, z = gR S1 3 a0 := ⟨_, rfl⟩
  rw [← hoo1]
  replace hw := hw o1 hoo1
  refine lv_iload_n B.1.1 B.1.2.1 dX0_errorAt_10 rfl (lv_at hl 1 rfl) ?_
  refine lv_iload_n B.1.1 B.1.2.1 dX0_errorAt_11 rfl (lv_at hl 2 rfl) ?_
  obtain ⟨q1, hn, hw⟩ := hw
  subst hn
  replace hl : lv_has ls 3 [(0, .ref a0), (1, .int x1), (2, .int x2)] := hl
  obtain ⟨hok, hw⟩ := hw
  refine q_callIV B h (met_X1_at l q1 x1 x2) (CB B 2 kC_X1_at kI_RX1 kM_RX0_56 hd_X1_at ⟨Nat.le_of_ble_eq_true rfl, Nat.le_of_ble_eq_true rfl⟩) kO_X1_at kV_X1_at (ci := 1) rfl (by decide) hok.1 hok.2 (rest := [.int r1]) rfl rfl hl.1 (Nat.le_of_ble_eq_true rfl) dX0_errorAt_12 ⟨Nat.le_of_ble_eq_true rfl, Nat.le_of_ble_eq_true rfl⟩ hw (fun r2 S2 H locs hw9 h9 => ?_)
  replace hw := hw9
  clear hw9
  replace h := h9
  clear h9
  refine lv_isub B.1.1 B.1.2.1 dX0_errorAt_15 ?_
  refine q_abs B kM_RX0_69 kS_math_abs kI_java_lang_Math kC_math_abs hl.1 (Nat.le_of_ble_eq_true rfl) (Nat.le_of_ble_eq_true rfl) (Nat.le_of_ble_eq_true rfl) (Nat.le_of_ble_eq_true rfl) dX0_errorAt_16 ?_
  exact q_iret B hr hlk h hw dX0_errorAt_19 (Nat.le_of_ble_eq_true rfl) (Nat.le_of_ble_eq_true rfl)
set_option maxHeartbeats 4000000 in
set_option maxRecDepth 100000 in
theorem met_X0_errorSum (l : Launch) (a0 : Nat) : MI l yX0_errorSum cX0_errorSum 4 (some .int) 4 89 0 0 [.ref a0] (wX0_errorSum a0) := by
  refine MI.of (by decide) (Nat.le_of_ble_eq_true rfl) ?_
  intro p e s m below meth c D cs lo S Q ls B hr hlk hin
  have L12 : ∀ (c0 : Nat) (c2 : Int32) (K : Int32 → Int32 → HS → Prop) (n : Nat) (m1 : Int32) (m3 : Int32) (S : HS) (H : Heap) (locs : List Loc) (ls : Array Slot), Hx D cs lo s S H locs → lv_has ls 4 [(0, .ref c0), (1, .int m1), (2, .int c2), (3, .int m3)] → wX0_errorSum_L12 c0 c2 n m1 m3 S K → (∀ (m1 : Int32) (m3 : Int32) (S : HS) (H : Heap) (locs : List Loc) (ls : Array Slot), Hx D cs lo s S H locs → lv_has ls 4 [(0, .ref c0), (1, .int m1), (2, .int c2), (3, .int m3)] → K m1 m3 S → W p l e ({ frames := 4, cells := 0, slots := 0, locals := 89 } : Room) s m [.ref a0].toArray below meth c H locs 0 0 (MQ below (va_Qi Q (fun S' t => hp D cs lo S' t.heap) (fun q => lo ≤ q)) [.ref a0].toArray s 0 0 (fun q => lo ≤ q)) (F0 m 35 ls [])) → W p l e ({ frames := 4, cells := 0, slots := 0, locals := 89 } : Room) s m [.ref a0].toArray below meth c H locs 0 0 (MQ below (va_Qi Q (fun S' t => hp D cs lo S' t.heap) (fun q => lo ≤ q)) [.ref a0].toArray s 0 0 (fun q => lo ≤ q)) (F0 m 12 ls []) := by
    intro c0 c2 K n
    induction n with
    | zero => intro m1 m3 S H locs ls h hl hw hk; exact False.elim hw
    | succ n ih =>
      intro m1 m3 S H locs ls h hl hw hk
      refine lv_iload_n B.1.1 B.1.2.1 dX0_errorSum_12 rfl (lv_at hl 3 rfl) ?_
      refine lv_aload_n B.1.1 B.1.2.1 dX0_errorSum_13 rfl (lv_at hl 0 rfl) ?_
      obtain ⟨hok, hw⟩ := hw
      refine q_getI B h (ci := 0) (j := 0) (code := 0) rfl inT_0 (by decide) kF_RX0_31 rfl rfl rfl (by decide) dX0_errorSum_14 hok.1 hok.2 ?_
      refine lv_icmp_ge (tgt := 35) B.1.1 B.1.2.1 dX0_errorSum_17 (by decide) (fun hc => ?_) (fun hc => ?_)
      · replace hw := hw.1 hc
        exact hk m1 m3 _ _ _ ls h (lv_sub hl [0, 1, 2, 3] rfl) hw
      · replace hw := hw.2 hc
        refine lv_iload_n B.1.1 B.1.2.1 dX0_errorSum_20 rfl (lv_at hl 1 rfl) ?_
        refine lv_aload_n B.1.1 B.1.2.1 dX0_errorSum_21 rfl (lv_at hl 0 rfl) ?_
        refine lv_iload_n B.1.1 B.1.2.1 dX0_errorSum_22 rfl (lv_at hl 2 rfl) ?_
        refine lv_iload_n B.1.1 B.1.2.1 dX0_errorSum_23 rfl (lv_at hl 3 rfl) ?_
        obtain ⟨hok, hw⟩ := hw
        refine q_callIV B h (met_X0_errorAt l c0 c2 m3) (CB B 2 kC_X0_errorAt kI_RX0 kM_RX0_73 hd_X0_errorAt ⟨Nat.le_of_ble_eq_true rfl, Nat.le_of_ble_eq_true rfl⟩) kO_X0_errorAt kV_X0_errorAt (ci := 0) rfl (by decide) hok.1 hok.2 (rest := [.int m1]) rfl rfl hl.1 (Nat.le_of_ble_eq_true rfl) dX0_errorSum_24 ⟨Nat.le_of_ble_eq_true rfl, Nat.le_of_ble_eq_true rfl⟩ hw (fun r1 S1 H locs hw9 h9 => ?_)
        replace hw := hw9
        clear hw9
        replace h := h9
        clear h9
        refine lv_iadd B.1.1 B.1.2.1 dX0_errorSum_27 ?_
        refine lv_istore_n (i := 1) (lv' := [(1, .int (m1 + r1)), (0, .ref c0), (2, .int c2), (3, .int m3)]) B.1.1 B.1.2.1 dX0_errorSum_28 rfl hl (by decide) rfl (fun ls hl9 => ?_)
        replace hl := hl9
        clear hl9
        refine lv_iinc (i := 3) (v := (m3 + (1 : Int32))) (lv' := [(3, .int (m3 + (1 : Int32))), (1, .int (m1 + r1)), (0, .ref c0), (2, .int c2)]) B.1.1 B.1.2.1 dX0_errorSum_29 hl (k := 3) rfl rfl (by decide) rfl (fun ls hl9 => ?_)
        replace hl := hl9
        clear hl9
        refine lv_goto (tgt := 12) B.1.1 B.1.2.1 dX0_errorSum_32 (by decide) ?_
        exact ih (m1 + r1) (m3 + (1 : Int32)) _ _ _ ls h (lv_sub hl [2, 1, 3, 0] rfl) hw hk
  have L4 : ∀ (c0 : Nat) (K : Int32 → Int32 → HS → Prop) (n : Nat) (m1 : Int32) (m2 : Int32) (S : HS) (H : Heap) (locs : List Loc) (ls : Array Slot), Hx D cs lo s S H locs → lv_has ls 4 [(0, .ref c0), (1, .int m1), (2, .int m2)] → wX0_errorSum_L4 c0 n m1 m2 S K → (∀ (m1 : Int32) (m2 : Int32) (S : HS) (H : Heap) (locs : List Loc) (ls : Array Slot), Hx D cs lo s S H locs → lv_has ls 4 [(0, .ref c0), (1, .int m1), (2, .int m2)] → K m1 m2 S → W p l e ({ frames := 4, cells := 0, slots := 0, locals := 89 } : Room) s m [.ref a0].toArray below meth c H locs 0 0 (MQ below (va_Qi Q (fun S' t => hp D cs lo S' t.heap) (fun q => lo ≤ q)) [.ref a0].toArray s 0 0 (fun q => lo ≤ q)) (F0 m 41 ls [])) → W p l e ({ frames := 4, cells := 0, slots := 0, locals := 89 } : Room) s m [.ref a0].toArray below meth c H locs 0 0 (MQ below (va_Qi Q (fun S' t => hp D cs lo S' t.heap) (fun q => lo ≤ q)) [.ref a0].toArray s 0 0 (fun q => lo ≤ q)) (F0 m 4 ls []) := by
    intro c0 K n
    induction n with
    | zero => intro m1 m2 S H locs ls h hl hw hk; exact False.elim hw
    | succ n ih =>
      intro m1 m2 S H locs ls h hl hw hk
      refine lv_iload_n B.1.1 B.1.2.1 dX0_errorSum_4 rfl (lv_at hl 2 rfl) ?_
      refine lv_bipush (v := (8 : Int32)) B.1.1 B.1.2.1 dX0_errorSum_5 (by decide) ?_
      refine lv_icmp_ge (tgt := 41) B.1.1 B.1.2.1 dX0_errorSum_7 (by decide) (fun hc => ?_) (fun hc => ?_)
      · replace hw := hw.1 hc
        exact hk m1 m2 _ _ _ ls h (lv_sub hl [0, 1, 2] rfl) hw
      · replace hw := hw.2 hc
        refine lv_iconst (v := (0 : Int32)) B.1.1 B.1.2.1 dX0_errorSum_10 (by decide) ?_
        refine lv_istore_n (i := 3) (lv' := [(3, .int (0 : Int32)), (0, .ref c0), (1, .int m1), (2, .int m2)]) B.1.1 B.1.2.1 dX0_errorSum_11 rfl hl (by decide) rfl (fun ls hl9 => ?_)
        replace hl := hl9
        clear hl9
        obtain ⟨n1, hw⟩ := hw
        refine L12 c0 m2 _ n1 m1 (0 : Int32) _ _ _ ls h (lv_sub hl [1, 2, 3, 0] rfl) hw (fun u1 u2 S2 H locs ls h9 hl9 hw9 => ?_)
        replace hw := hw9
        clear hw9
        replace h := h9
        clear h9
        replace hl := hl9
        clear hl9
        refine lv_iinc (i := 2) (v := (m2 + (1 : Int32))) (lv' := [(2, .int (m2 + (1 : Int32))), (0, .ref c0), (1, .int u1), (3, .int u2)]) B.1.1 B.1.2.1 dX0_errorSum_35 hl (k := 2) rfl rfl (by decide) rfl (fun ls hl9 => ?_)
        replace hl := hl9
        clear hl9
        refine lv_goto (tgt := 4) B.1.1 B.1.2.1 dX0_errorSum_38 (by decide) ?_
        exact ih u1 (m2 + (1 : Int32)) _ _ _ ls h (lv_sub hl [1, 2, 0] rfl) hw hk
  intro h hl hw
  replace hl : lv_has ls 4 [(0, .ref a0)] := hl
  refine lv_iconst (v := (0 : Int32)) B.1.1 B.1.2.1 dX0_errorSum_0 (by decide) ?_
  refine lv_istore_n (i := 1) (lv' := [(1, .int (0 : Int32)), (0, .ref a0)]) B.1.1 B.1.2.1 dX0_errorSum_1 rfl hl (by decide) rfl (fun ls hl9 => ?_)
  replace hl := hl9
  clear hl9
  refine lv_iconst (v := (0 : Int32)) B.1.1 B.1.2.1 dX0_errorSum_2 (by decide) ?_
  refine lv_istore_n (i := 2) (lv' := [(2, .int (0 : Int32)), (1, .int (0 : Int32)), (0, .ref a0)]) B.1.1 B.1.2.1 dX0_errorSum_3 rfl hl (by decide) rfl (fun ls hl9 => ?_)
  replace hl := hl9
  clear hl9
  obtain ⟨n2, hw⟩ := hw
  refine L4 a0 _ n2 (0 : Int32) (0 : Int32) _ _ _ ls h (lv_sub hl [2, 1, 0] rfl) hw (fun u3 u4 S3 H locs ls h9 hl9 hw9 => ?_)
  replace hw := hw9
  clear hw9
  replace h := h9
  clear h9
  replace hl := hl9
  clear hl9
  refine lv_iload_n B.1.1 B.1.2.1 dX0_errorSum_41 rfl (lv_at hl 1 rfl) ?_
  exact q_iret B hr hlk h hw dX0_errorSum_42 (Nat.le_of_ble_eq_true rfl) (Nat.le_of_ble_eq_true rfl)
set_option maxHeartbeats 4000000 in
set_option maxRecDepth 100000 in
theorem met_X0_seamError (l : Launch) (a0 : Nat) (p1 : Option Nat) (p2 : Option Nat) : MI l yX0_seamError cX0_seamError 8 (some .int) 4 89 0 0 [.ref a0, va_rf p1, va_rf p2] (wX0_seamError a0 p1 p2) := by
  refine MI.of (by decide) (by simp [lg_sl, rf_cat, cat_i, cat_r, cat_n, cat_j, cat_f, cat_d]) ?_
  intro p e s m below meth c D cs lo S Q ls B hr hlk hin
  have L45 : ∀ (c0 : Nat) (c3 : Int32) (c4 : Int32) (c6 : Int32) (K : Int32 → Int32 → HS → Prop) (n : Nat) (m5 : Int32) (m7 : Int32) (S : HS) (H : Heap) (locs : List Loc) (ls : Array Slot), Hx D cs lo s S H locs → lv_has ls 8 [(0, .ref c0), (3, .int c3), (4, .int c4), (5, .int m5), (6, .int c6), (7, .int m7)] → wX0_seamError_L45 c0 c3 c4 c6 n m5 m7 S K → (∀ (m5 : Int32) (m7 : Int32) (S : HS) (H : Heap) (locs : List Loc) (ls : Array Slot), Hx D cs lo s S H locs → lv_has ls 8 [(0, .ref c0), (3, .int c3), (4, .int c4), (5, .int m5), (6, .int c6), (7, .int m7)] → K m5 m7 S → W p l e ({ frames := 4, cells := 0, slots := 0, locals := 89 } : Room) s m [.ref a0, va_rf p1, va_rf p2].toArray below meth c H locs 0 0 (MQ below (va_Qi Q (fun S' t => hp D cs lo S' t.heap) (fun q => lo ≤ q)) [.ref a0, va_rf p1, va_rf p2].toArray s 0 0 (fun q => lo ≤ q)) (F0 m 73 ls [])) → W p l e ({ frames := 4, cells := 0, slots := 0, locals := 89 } : Room) s m [.ref a0, va_rf p1, va_rf p2].toArray below meth c H locs 0 0 (MQ below (va_Qi Q (fun S' t => hp D cs lo S' t.heap) (fun q => lo ≤ q)) [.ref a0, va_rf p1, va_rf p2].toArray s 0 0 (fun q => lo ≤ q)) (F0 m 45 ls []) := by
    intro c0 c3 c4 c6 K n
    induction n with
    | zero => intro m5 m7 S H locs ls h hl hw hk; exact False.elim hw
    | succ n ih =>
      intro m5 m7 S H locs ls h hl hw hk
      refine lv_iload B.1.1 B.1.2.1 dX0_seamError_45 (lv_at hl 5 rfl) ?_
      refine lv_iload B.1.1 B.1.2.1 dX0_seamError_47 (lv_at hl 2 rfl) ?_
      refine lv_icmp_gt (tgt := 73) B.1.1 B.1.2.1 dX0_seamError_49 (by decide) (fun hc => ?_) (fun hc => ?_)
      · replace hw := hw.1 hc
        exact hk m5 m7 _ _ _ ls h (lv_sub hl [0, 1, 2, 3, 4, 5] rfl) hw
      · replace hw := hw.2 hc
        refine lv_iload B.1.1 B.1.2.1 dX0_seamError_52 (lv_at hl 3 rfl) ?_
        refine lv_aload_n B.1.1 B.1.2.1 dX0_seamError_54 rfl (lv_at hl 0 rfl) ?_
        refine lv_iload B.1.1 B.1.2.1 dX0_seamError_55 (lv_at hl 4 rfl) ?_
        refine lv_iload B.1.1 B.1.2.1 dX0_seamError_57 (lv_at hl 5 rfl) ?_
        obtain ⟨hok, hw⟩ := hw
        refine q_callIV B h (met_X0_errorAt l c0 c6 m7) (CB B 2 kC_X0_errorAt kI_RX0 kM_RX0_73 hd_X0_errorAt ⟨Nat.le_of_ble_eq_true rfl, Nat.le_of_ble_eq_true rfl⟩) kO_X0_errorAt kV_X0_errorAt (ci := 0) rfl (by decide) hok.1 hok.2 (rest := [.int m5]) rfl rfl hl.1 (Nat.le_of_ble_eq_true rfl) dX0_seamError_59 ⟨Nat.le_of_ble_eq_true rfl, Nat.le_of_ble_eq_true rfl⟩ hw (fun r1 S1 H locs hw9 h9 => ?_)
        replace hw := hw9
        clear hw9
        replace h := h9
        clear h9
        refine q_max B kM_RX0_82 kS_math_max kI_java_lang_Math kC_math_max hl.1 (Nat.le_of_ble_eq_true rfl) (Nat.le_of_ble_eq_true rfl) (Nat.le_of_ble_eq_true rfl) (Nat.le_of_ble_eq_true rfl) dX0_seamError_62 ?_
        refine lv_istore (i := 5) (lv' := [(5, .int (if m5 < r1 then r1 else m5)), (0, .ref c0), (3, .int c3), (4, .int c4), (6, .int c6), (7, .int m7)]) B.1.1 B.1.2.1 dX0_seamError_65 hl (by decide) rfl (fun ls hl9 => ?_)
        replace hl := hl9
        clear hl9
        refine lv_iinc (i := 7) (v := (m7 + (1 : Int32))) (lv' := [(7, .int (m7 + (1 : Int32))), (5, .int (if m5 < r1 then r1 else m5)), (0, .ref c0), (3, .int c3), (4, .int c4), (6, .int c6)]) B.1.1 B.1.2.1 dX0_seamError_67 hl (k := 5) rfl rfl (by decide) rfl (fun ls hl9 => ?_)
        replace hl := hl9
        clear hl9
        refine lv_goto (tgt := 45) B.1.1 B.1.2.1 dX0_seamError_70 (by decide) ?_
        exact ih (if m5 < r1 then r1 else m5) (m7 + (1 : Int32)) _ _ _ ls h (lv_sub hl [2, 3, 4, 1, 5, 0] rfl) hw hk
  have L35 : ∀ (c0 : Nat) (c3 : Int32) (c4 : Int32) (K : Int32 → Int32 → HS → Prop) (n : Nat) (m5 : Int32) (m6 : Int32) (S : HS) (H : Heap) (locs : List Loc) (ls : Array Slot), Hx D cs lo s S H locs → lv_has ls 8 [(0, .ref c0), (3, .int c3), (4, .int c4), (5, .int m5), (6, .int m6)] → wX0_seamError_L35 c0 c3 c4 n m5 m6 S K → (∀ (m5 : Int32) (m6 : Int32) (S : HS) (H : Heap) (locs : List Loc) (ls : Array Slot), Hx D cs lo s S H locs → lv_has ls 8 [(0, .ref c0), (3, .int c3), (4, .int c4), (5, .int m5), (6, .int m6)] → K m5 m6 S → W p l e ({ frames := 4, cells := 0, slots := 0, locals := 89 } : Room) s m [.ref a0, va_rf p1, va_rf p2].toArray below meth c H locs 0 0 (MQ below (va_Qi Q (fun S' t => hp D cs lo S' t.heap) (fun q => lo ≤ q)) [.ref a0, va_rf p1, va_rf p2].toArray s 0 0 (fun q => lo ≤ q)) (F0 m 79 ls [])) → W p l e ({ frames := 4, cells := 0, slots := 0, locals := 89 } : Room) s m [.ref a0, va_rf p1, va_rf p2].toArray below meth c H locs 0 0 (MQ below (va_Qi Q (fun S' t => hp D cs lo S' t.heap) (fun q => lo ≤ q)) [.ref a0, va_rf p1, va_rf p2].toArray s 0 0 (fun q => lo ≤ q)) (F0 m 35 ls []) := by
    intro c0 c3 c4 K n
    induction n with
    | zero => intro m5 m6 S H locs ls h hl hw hk; exact False.elim hw
    | succ n ih =>
      intro m5 m6 S H locs ls h hl hw hk
      refine lv_iload B.1.1 B.1.2.1 dX0_seamError_35 (lv_at hl 4 rfl) ?_
      refine lv_bipush (v := (8 : Int32)) B.1.1 B.1.2.1 dX0_seamError_37 (by decide) ?_
      refine lv_icmp_ge (tgt := 79) B.1.1 B.1.2.1 dX0_seamError_39 (by decide) (fun hc => ?_) (fun hc => ?_)
      · replace hw := hw.1 hc
        exact hk m5 m6 _ _ _ ls h (lv_sub hl [0, 1, 2, 3, 4] rfl) hw
      · replace hw := hw.2 hc
        refine lv_iload_n B.1.1 B.1.2.1 dX0_seamError_42 rfl (lv_at hl 1 rfl) ?_
        refine lv_istore (i := 7) (lv' := [(7, .int c3), (0, .ref c0), (3, .int c3), (4, .int c4), (5, .int m5), (6, .int m6)]) B.1.1 B.1.2.1 dX0_seamError_43 hl (by decide) rfl (fun ls hl9 => ?_)
        replace hl := hl9
        clear hl9
        obtain ⟨n1, hw⟩ := hw
        refine L45 c0 c3 c4 m6 _ n1 m5 c3 _ _ _ ls h (lv_sub hl [1, 2, 3, 4, 5, 0] rfl) hw (fun u1 u2 S2 H locs ls h9 hl9 hw9 => ?_)
        replace hw := hw9
        clear hw9
        replace h := h9
        clear h9
        replace hl := hl9
        clear hl9
        refine lv_iinc (i := 6) (v := (m6 + (1 : Int32))) (lv' := [(6, .int (m6 + (1 : Int32))), (0, .ref c0), (3, .int c3), (4, .int c4), (5, .int u1), (7, .int u2)]) B.1.1 B.1.2.1 dX0_seamError_73 hl (k := 4) rfl rfl (by decide) rfl (fun ls hl9 => ?_)
        replace hl := hl9
        clear hl9
        refine lv_goto (tgt := 35) B.1.1 B.1.2.1 dX0_seamError_76 (by decide) ?_
        exact ih u1 (m6 + (1 : Int32)) _ _ _ ls h (lv_sub hl [1, 2, 3, 4, 0] rfl) hw hk
  intro h hl hw
  replace hl : lv_has ls 8 [(0, .ref a0), (1, va_rf p1), (2, va_rf p2)] := by simpa [lv_args, rf_cat, cat_i, cat_r, cat_n, cat_j, cat_f, cat_d] using hl
  refine q_aload_n B.1.1 B.1.2.1 dX0_seamError_0 rfl (lv_at hl 1 rfl) ?_
  obtain ⟨q1, hn, hw⟩ := hw
  subst hn
  replace hl : lv_has ls 8 [(0, .ref a0), (1, .ref q1), (2, va_rf p2)] := hl
  obtain ⟨hok, hw⟩ := hw
  refine q_getIN B h (ci := 3) (j := 2) (code := 98) rfl inT_3 (by decide) kF_RX0_76 rfl rfl rfl (by decide) dX0_seamError_1 hok.1 hok.2 ?_
  refine lv_iconst (v := (1 : Int32)) B.1.1 B.1.2.1 dX0_seamError_4 (by decide) ?_
  refine lv_isub B.1.1 B.1.2.1 dX0_seamError_5 ?_
  refine q_aload_n B.1.1 B.1.2.1 dX0_seamError_6 rfl (lv_at hl 2 rfl) ?_
  obtain ⟨q2, hn, hw⟩ := hw
  subst hn
  replace hl : lv_has ls 8 [(0, .ref a0), (1, .ref q1), (2, .ref q2)] := hl
  obtain ⟨hok, hw⟩ := hw
  refine q_getIN B h (ci := 3) (j := 1) (code := 97) rfl inT_3 (by decide) kF_RX0_79 rfl rfl rfl (by decide) dX0_seamError_7 hok.1 hok.2 ?_
  refine q_min B kM_RX0_40 kS_math_min kI_java_lang_Math kC_math_min hl.1 (Nat.le_of_ble_eq_true rfl) (Nat.le_of_ble_eq_true rfl) (Nat.le_of_ble_eq_true rfl) (Nat.le_of_ble_eq_true rfl) dX0_seamError_10 ?_
  refine lv_istore_n (i := 3) (lv' := [(3, .int (if (gI S 97 q2) < ((gI S 98 q1) - (1 : Int32)) then (gI S 97 q2) else ((gI S 98 q1) - (1 : Int32)))), (0, .ref a0), (1, .ref q1), (2, .ref q2)]) B.1.1 B.1.2.1 dX0_seamError_13 rfl hl (by decide) rfl (fun ls hl9 => ?_)
  replace hl := hl9
  clear hl9
  refine lv_aload_n B.1.1 B.1.2.1 dX0_seamError_14 rfl (lv_at hl 2 rfl) ?_
  obtain ⟨hok, hw⟩ := hw
  refine q_getIN B h (ci := 3) (j := 2) (code := 98) rfl inT_3 (by decide) kF_RX0_76 rfl rfl rfl (by decide) dX0_seamError_15 hok.1 hok.2 ?_
  refine lv_iconst (v := (1 : Int32)) B.1.1 B.1.2.1 dX0_seamError_18 (by decide) ?_
  refine lv_isub B.1.1 B.1.2.1 dX0_seamError_19 ?_
  refine lv_aload_n B.1.1 B.1.2.1 dX0_seamError_20 rfl (lv_at hl 3 rfl) ?_
  obtain ⟨hok, hw⟩ := hw
  refine q_getIN B h (ci := 3) (j := 1) (code := 97) rfl inT_3 (by decide) kF_RX0_79 rfl rfl rfl (by decide) dX0_seamError_21 hok.1 hok.2 ?_
  refine q_max B kM_RX0_82 kS_math_max kI_java_lang_Math kC_math_max hl.1 (Nat.le_of_ble_eq_true rfl) (Nat.le_of_ble_eq_true rfl) (Nat.le_of_ble_eq_true rfl) (Nat.le_of_ble_eq_true rfl) dX0_seamError_24 ?_
  refine lv_istore (i := 4) (lv' := [(4, .int (if ((gI S 98 q1) - (1 : Int32)) < (gI S 97 q2) then (gI S 97 q2) else ((gI S 98 q1) - (1 : Int32)))), (3, .int (if (gI S 97 q2) < ((gI S 98 q1) - (1 : Int32)) then (gI S 97 q2) else ((gI S 98 q1) - (1 : Int32)))), (0, .ref a0), (1, .ref q1), (2, .ref q2)]) B.1.1 B.1.2.1 dX0_seamError_27 hl (by decide) rfl (fun ls hl9 => ?_)
  replace hl := hl9
  clear hl9
  refine lv_iconst (v := (0 : Int32)) B.1.1 B.1.2.1 dX0_seamError_29 (by decide) ?_
  refine lv_istore (i := 5) (lv' := [(5, .int (0 : Int32)), (4, .int (if ((gI S 98 q1) - (1 : Int32)) < (gI S 97 q2) then (gI S 97 q2) else ((gI S 98 q1) - (1 : Int32)))), (3, .int (if (gI S 97 q2) < ((gI S 98 q1) - (1 : Int32)) then (gI S 97 q2) else ((gI S 98 q1) - (1 : Int32)))), (0, .ref a0), (1, .ref q1), (2, .ref q2)]) B.1.1 B.1.2.1 dX0_seamError_30 hl (by decide) rfl (fun ls hl9 => ?_)
  replace hl := hl9
  clear hl9
  refine lv_iconst (v := (0 : Int32)) B.1.1 B.1.2.1 dX0_seamError_32 (by decide) ?_
  refine lv_istore (i := 6) (lv' := [(6, .int (0 : Int32)), (5, .int (0 : Int32)), (4, .int (if ((gI S 98 q1) - (1 : Int32)) < (gI S 97 q2) then (gI S 97 q2) else ((gI S 98 q1) - (1 : Int32)))), (3, .int (if (gI S 97 q2) < ((gI S 98 q1) - (1 : Int32)) then (gI S 97 q2) else ((gI S 98 q1) - (1 : Int32)))), (0, .ref a0), (1, .ref q1), (2, .ref q2)]) B.1.1 B.1.2.1 dX0_seamError_33 hl (by decide) rfl (fun ls hl9 => ?_)
  replace hl := hl9
  clear hl9
  obtain ⟨n2, hw⟩ := hw
  refine L35 a0 (if (gI S 97 q2) < ((gI S 98 q1) - (1 : Int32)) then (gI S 97 q2) else ((gI S 98 q1) - (1 : Int32))) (if ((gI S 98 q1) - (1 : Int32)) < (gI S 97 q2) then (gI S 97 q2) else ((gI S 98 q1) - (1 : Int32))) _ n2 (0 : Int32) (0 : Int32) _ _ _ ls h (lv_sub hl [4, 3, 2, 1, 0] rfl) hw (fun u3 u4 S3 H locs ls h9 hl9 hw9 => ?_)
  replace hw := hw9
  clear hw9
  replace h := h9
  clear h9
  replace hl := hl9
  clear hl9
  refine lv_iload B.1.1 B.1.2.1 dX0_seamError_79 (lv_at hl 3 rfl) ?_
  exact q_iret B hr hlk h hw dX0_seamError_81 (Nat.le_of_ble_eq_true rfl) (Nat.le_of_ble_eq_true rfl)
