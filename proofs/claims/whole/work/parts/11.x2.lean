theorem dX2_isPrinting_0 : decode cX2_isPrinting 0 = .ok (.aload_n 0, 1) := by decide +kernel
theorem dX2_isPrinting_1 : decode cX2_isPrinting 1 = .ok (.getfield 36, 3) := by decide +kernel
theorem dX2_isPrinting_4 : decode cX2_isPrinting 4 = .ok (.ifnull 7, 3) := by decide +kernel
theorem dX2_isPrinting_7 : decode cX2_isPrinting 7 = .ok (.iconst 1, 1) := by decide +kernel
theorem dX2_isPrinting_8 : decode cX2_isPrinting 8 = .ok (.goto 4, 3) := by decide +kernel
theorem dX2_isPrinting_11 : decode cX2_isPrinting 11 = .ok (.iconst 0, 1) := by decide +kernel
theorem dX2_isPrinting_12 : decode cX2_isPrinting 12 = .ok (.ireturn, 1) := by decide +kernel
theorem dX2_correctByGain_0 : decode cX2_correctByGain 0 = .ok (.aload_n 0, 1) := by decide +kernel
theorem dX2_correctByGain_1 : decode cX2_correctByGain 1 = .ok (.getfield 9, 3) := by decide +kernel
theorem dX2_correctByGain_4 : decode cX2_correctByGain 4 = .ok (.ifCond .le 22, 3) := by decide +kernel
theorem dX2_correctByGain_7 : decode cX2_correctByGain 7 = .ok (.aload_n 0, 1) := by decide +kernel
theorem dX2_correctByGain_8 : decode cX2_correctByGain 8 = .ok (.sipush 10000, 3) := by decide +kernel
theorem dX2_correctByGain_11 : decode cX2_correctByGain 11 = .ok (.aload_n 0, 1) := by decide +kernel
theorem dX2_correctByGain_12 : decode cX2_correctByGain 12 = .ok (.getfield 9, 3) := by decide +kernel
theorem dX2_correctByGain_15 : decode cX2_correctByGain 15 = .ok (.iadd, 1) := by decide +kernel
theorem dX2_correctByGain_16 : decode cX2_correctByGain 16 = .ok (.iconst 1, 1) := by decide +kernel
theorem dX2_correctByGain_17 : decode cX2_correctByGain 17 = .ok (.isub, 1) := by decide +kernel
theorem dX2_correctByGain_18 : decode cX2_correctByGain 18 = .ok (.aload_n 0, 1) := by decide +kernel
theorem dX2_correctByGain_19 : decode cX2_correctByGain 19 = .ok (.getfield 9, 3) := by decide +kernel
theorem dX2_correctByGain_22 : decode cX2_correctByGain 22 = .ok (.idiv, 1) := by decide +kernel
theorem dX2_correctByGain_23 : decode cX2_correctByGain 23 = .ok (.putfield 15, 3) := by decide +kernel
theorem dX2_correctByGain_26 : decode cX2_correctByGain 26 = .ok (.aload_n 0, 1) := by decide +kernel
theorem dX2_correctByGain_27 : decode cX2_correctByGain 27 = .ok (.getfield 15, 3) := by decide +kernel
theorem dX2_correctByGain_30 : decode cX2_correctByGain 30 = .ok (.ireturn, 1) := by decide +kernel
theorem dX2_blockNozzle_0 : decode cX2_blockNozzle 0 = .ok (.iload_n 1, 1) := by decide +kernel
theorem dX2_blockNozzle_1 : decode cX2_blockNozzle 1 = .ok (.ifCond .lt 19, 3) := by decide +kernel
theorem dX2_blockNozzle_4 : decode cX2_blockNozzle 4 = .ok (.iload_n 1, 1) := by decide +kernel
theorem dX2_blockNozzle_5 : decode cX2_blockNozzle 5 = .ok (.aload_n 0, 1) := by decide +kernel
theorem dX2_blockNozzle_6 : decode cX2_blockNozzle 6 = .ok (.getfield 18, 3) := by decide +kernel
theorem dX2_blockNozzle_9 : decode cX2_blockNozzle 9 = .ok (.arraylength, 1) := by decide +kernel
theorem dX2_blockNozzle_10 : decode cX2_blockNozzle 10 = .ok (.if_icmp .ge 10, 3) := by decide +kernel
theorem dX2_blockNozzle_13 : decode cX2_blockNozzle 13 = .ok (.aload_n 0, 1) := by decide +kernel
theorem dX2_blockNozzle_14 : decode cX2_blockNozzle 14 = .ok (.getfield 18, 3) := by decide +kernel
theorem dX2_blockNozzle_17 : decode cX2_blockNozzle 17 = .ok (.iload_n 1, 1) := by decide +kernel
theorem dX2_blockNozzle_18 : decode cX2_blockNozzle 18 = .ok (.iconst 1, 1) := by decide +kernel
theorem dX2_blockNozzle_19 : decode cX2_blockNozzle 19 = .ok (.bastore, 1) := by decide +kernel
theorem dX2_blockNozzle_20 : decode cX2_blockNozzle 20 = .ok (.return_, 1) := by decide +kernel
theorem dX2_freeNozzles_0 : decode cX2_freeNozzles 0 = .ok (.iconst 0, 1) := by decide +kernel
theorem dX2_freeNozzles_1 : decode cX2_freeNozzles 1 = .ok (.istore_n 1, 1) := by decide +kernel
theorem dX2_freeNozzles_2 : decode cX2_freeNozzles 2 = .ok (.iload_n 1, 1) := by decide +kernel
theorem dX2_freeNozzles_3 : decode cX2_freeNozzles 3 = .ok (.aload_n 0, 1) := by decide +kernel
theorem dX2_freeNozzles_4 : decode cX2_freeNozzles 4 = .ok (.getfield 18, 3) := by decide +kernel
theorem dX2_freeNozzles_7 : decode cX2_freeNozzles 7 = .ok (.arraylength, 1) := by decide +kernel
theorem dX2_freeNozzles_8 : decode cX2_freeNozzles 8 = .ok (.if_icmp .ge 16, 3) := by decide +kernel
theorem dX2_freeNozzles_11 : decode cX2_freeNozzles 11 = .ok (.aload_n 0, 1) := by decide +kernel
theorem dX2_freeNozzles_12 : decode cX2_freeNozzles 12 = .ok (.getfield 18, 3) := by decide +kernel
theorem dX2_freeNozzles_15 : decode cX2_freeNozzles 15 = .ok (.iload_n 1, 1) := by decide +kernel
theorem dX2_freeNozzles_16 : decode cX2_freeNozzles 16 = .ok (.iconst 0, 1) := by decide +kernel
theorem dX2_freeNozzles_17 : decode cX2_freeNozzles 17 = .ok (.bastore, 1) := by decide +kernel
theorem dX2_freeNozzles_18 : decode cX2_freeNozzles 18 = .ok (.iinc 1 1, 3) := by decide +kernel
theorem dX2_freeNozzles_21 : decode cX2_freeNozzles 21 = .ok (.goto (-19), 3) := by decide +kernel
theorem dX2_freeNozzles_24 : decode cX2_freeNozzles 24 = .ok (.return_, 1) := by decide +kernel
theorem dX2_blockedCount_0 : decode cX2_blockedCount 0 = .ok (.iconst 0, 1) := by decide +kernel
theorem dX2_blockedCount_1 : decode cX2_blockedCount 1 = .ok (.istore_n 1, 1) := by decide +kernel
theorem dX2_blockedCount_2 : decode cX2_blockedCount 2 = .ok (.iconst 0, 1) := by decide +kernel
theorem dX2_blockedCount_3 : decode cX2_blockedCount 3 = .ok (.istore_n 2, 1) := by decide +kernel
theorem dX2_blockedCount_4 : decode cX2_blockedCount 4 = .ok (.iload_n 2, 1) := by decide +kernel
theorem dX2_blockedCount_5 : decode cX2_blockedCount 5 = .ok (.aload_n 0, 1) := by decide +kernel
theorem dX2_blockedCount_6 : decode cX2_blockedCount 6 = .ok (.getfield 18, 3) := by decide +kernel
theorem dX2_blockedCount_9 : decode cX2_blockedCount 9 = .ok (.arraylength, 1) := by decide +kernel
theorem dX2_blockedCount_10 : decode cX2_blockedCount 10 = .ok (.if_icmp .ge 21, 3) := by decide +kernel
theorem dX2_blockedCount_13 : decode cX2_blockedCount 13 = .ok (.aload_n 0, 1) := by decide +kernel
theorem dX2_blockedCount_14 : decode cX2_blockedCount 14 = .ok (.getfield 18, 3) := by decide +kernel
theorem dX2_blockedCount_17 : decode cX2_blockedCount 17 = .ok (.iload_n 2, 1) := by decide +kernel
theorem dX2_blockedCount_18 : decode cX2_blockedCount 18 = .ok (.baload, 1) := by decide +kernel
theorem dX2_blockedCount_19 : decode cX2_blockedCount 19 = .ok (.ifCond .eq 6, 3) := by decide +kernel
theorem dX2_blockedCount_22 : decode cX2_blockedCount 22 = .ok (.iinc 1 1, 3) := by decide +kernel
theorem dX2_blockedCount_25 : decode cX2_blockedCount 25 = .ok (.iinc 2 1, 3) := by decide +kernel
theorem dX2_blockedCount_28 : decode cX2_blockedCount 28 = .ok (.goto (-24), 3) := by decide +kernel
theorem dX2_blockedCount_31 : decode cX2_blockedCount 31 = .ok (.iload_n 1, 1) := by decide +kernel
theorem dX2_blockedCount_32 : decode cX2_blockedCount 32 = .ok (.ireturn, 1) := by decide +kernel
theorem dX2_isBlocked_0 : decode cX2_isBlocked 0 = .ok (.iload_n 1, 1) := by decide +kernel
theorem dX2_isBlocked_1 : decode cX2_isBlocked 1 = .ok (.ifCond .lt 25, 3) := by decide +kernel
theorem dX2_isBlocked_4 : decode cX2_isBlocked 4 = .ok (.iload_n 1, 1) := by decide +kernel
theorem dX2_isBlocked_5 : decode cX2_isBlocked 5 = .ok (.aload_n 0, 1) := by decide +kernel
theorem dX2_isBlocked_6 : decode cX2_isBlocked 6 = .ok (.getfield 18, 3) := by decide +kernel
theorem dX2_isBlocked_9 : decode cX2_isBlocked 9 = .ok (.arraylength, 1) := by decide +kernel
theorem dX2_isBlocked_10 : decode cX2_isBlocked 10 = .ok (.if_icmp .ge 16, 3) := by decide +kernel
theorem dX2_isBlocked_13 : decode cX2_isBlocked 13 = .ok (.aload_n 0, 1) := by decide +kernel
theorem dX2_isBlocked_14 : decode cX2_isBlocked 14 = .ok (.getfield 18, 3) := by decide +kernel
theorem dX2_isBlocked_17 : decode cX2_isBlocked 17 = .ok (.iload_n 1, 1) := by decide +kernel
theorem dX2_isBlocked_18 : decode cX2_isBlocked 18 = .ok (.baload, 1) := by decide +kernel
theorem dX2_isBlocked_19 : decode cX2_isBlocked 19 = .ok (.ifCond .eq 7, 3) := by decide +kernel
theorem dX2_isBlocked_22 : decode cX2_isBlocked 22 = .ok (.iconst 1, 1) := by decide +kernel
theorem dX2_isBlocked_23 : decode cX2_isBlocked 23 = .ok (.goto 4, 3) := by decide +kernel
theorem dX2_isBlocked_26 : decode cX2_isBlocked 26 = .ok (.iconst 0, 1) := by decide +kernel
theorem dX2_isBlocked_27 : decode cX2_isBlocked 27 = .ok (.ireturn, 1) := by decide +kernel
theorem dX2_setDose_0 : decode cX2_setDose 0 = .ok (.iload_n 1, 1) := by decide +kernel
theorem dX2_setDose_1 : decode cX2_setDose 1 = .ok (.ifCond .lt 32, 3) := by decide +kernel
theorem dX2_setDose_4 : decode cX2_setDose 4 = .ok (.iload_n 1, 1) := by decide +kernel
theorem dX2_setDose_5 : decode cX2_setDose 5 = .ok (.aload_n 0, 1) := by decide +kernel
theorem dX2_setDose_6 : decode cX2_setDose 6 = .ok (.getfield 22, 3) := by decide +kernel
theorem dX2_setDose_9 : decode cX2_setDose 9 = .ok (.arraylength, 1) := by decide +kernel
theorem dX2_setDose_10 : decode cX2_setDose 10 = .ok (.if_icmp .ge 23, 3) := by decide +kernel
theorem dX2_setDose_13 : decode cX2_setDose 13 = .ok (.aload_n 0, 1) := by decide +kernel
theorem dX2_setDose_14 : decode cX2_setDose 14 = .ok (.getfield 22, 3) := by decide +kernel
theorem dX2_setDose_17 : decode cX2_setDose 17 = .ok (.iload_n 1, 1) := by decide +kernel
theorem dX2_setDose_18 : decode cX2_setDose 18 = .ok (.iload_n 2, 1) := by decide +kernel
theorem dX2_setDose_19 : decode cX2_setDose 19 = .ok (.aload_n 0, 1) := by decide +kernel
theorem dX2_setDose_20 : decode cX2_setDose 20 = .ok (.getfield 15, 3) := by decide +kernel
theorem dX2_setDose_23 : decode cX2_setDose 23 = .ok (.imul, 1) := by decide +kernel
theorem dX2_setDose_24 : decode cX2_setDose 24 = .ok (.bipush 100, 2) := by decide +kernel
theorem dX2_setDose_26 : decode cX2_setDose 26 = .ok (.idiv, 1) := by decide +kernel
theorem dX2_setDose_27 : decode cX2_setDose 27 = .ok (.bipush 15, 2) := by decide +kernel
theorem dX2_setDose_29 : decode cX2_setDose 29 = .ok (.invokestatic 46, 3) := by decide +kernel
theorem dX2_setDose_32 : decode cX2_setDose 32 = .ok (.iastore, 1) := by decide +kernel
theorem dX2_setDose_33 : decode cX2_setDose 33 = .ok (.return_, 1) := by decide +kernel
theorem dX2_doseOf_0 : decode cX2_doseOf 0 = .ok (.iload_n 1, 1) := by decide +kernel
theorem dX2_doseOf_1 : decode cX2_doseOf 1 = .ok (.ifCond .lt 21, 3) := by decide +kernel
theorem dX2_doseOf_4 : decode cX2_doseOf 4 = .ok (.iload_n 1, 1) := by decide +kernel
theorem dX2_doseOf_5 : decode cX2_doseOf 5 = .ok (.aload_n 0, 1) := by decide +kernel
theorem dX2_doseOf_6 : decode cX2_doseOf 6 = .ok (.getfield 22, 3) := by decide +kernel
theorem dX2_doseOf_9 : decode cX2_doseOf 9 = .ok (.arraylength, 1) := by decide +kernel
theorem dX2_doseOf_10 : decode cX2_doseOf 10 = .ok (.if_icmp .ge 12, 3) := by decide +kernel
theorem dX2_doseOf_13 : decode cX2_doseOf 13 = .ok (.aload_n 0, 1) := by decide +kernel
theorem dX2_doseOf_14 : decode cX2_doseOf 14 = .ok (.getfield 22, 3) := by decide +kernel
theorem dX2_doseOf_17 : decode cX2_doseOf 17 = .ok (.iload_n 1, 1) := by decide +kernel
theorem dX2_doseOf_18 : decode cX2_doseOf 18 = .ok (.iaload, 1) := by decide +kernel
theorem dX2_doseOf_19 : decode cX2_doseOf 19 = .ok (.goto 4, 3) := by decide +kernel
theorem dX2_doseOf_22 : decode cX2_doseOf 22 = .ok (.iconst 0, 1) := by decide +kernel
theorem dX2_doseOf_23 : decode cX2_doseOf 23 = .ok (.ireturn, 1) := by decide +kernel
theorem dX2_doseHeldBack_0 : decode cX2_doseHeldBack 0 = .ok (.aload_n 0, 1) := by decide +kernel
theorem dX2_doseHeldBack_1 : decode cX2_doseHeldBack 1 = .ok (.iload_n 1, 1) := by decide +kernel
theorem dX2_doseHeldBack_2 : decode cX2_doseHeldBack 2 = .ok (.invokevirtual 52, 3) := by decide +kernel
theorem dX2_doseHeldBack_5 : decode cX2_doseHeldBack 5 = .ok (.ifCond .eq 11, 3) := by decide +kernel
theorem dX2_doseHeldBack_8 : decode cX2_doseHeldBack 8 = .ok (.aload_n 0, 1) := by decide +kernel
theorem dX2_doseHeldBack_9 : decode cX2_doseHeldBack 9 = .ok (.iload_n 1, 1) := by decide +kernel
theorem dX2_doseHeldBack_10 : decode cX2_doseHeldBack 10 = .ok (.invokevirtual 56, 3) := by decide +kernel
theorem dX2_doseHeldBack_13 : decode cX2_doseHeldBack 13 = .ok (.goto 4, 3) := by decide +kernel
theorem dX2_doseHeldBack_16 : decode cX2_doseHeldBack 16 = .ok (.iconst 0, 1) := by decide +kernel
theorem dX2_doseHeldBack_17 : decode cX2_doseHeldBack 17 = .ok (.ireturn, 1) := by decide +kernel
theorem dX2_laidInRow_0 : decode cX2_laidInRow 0 = .ok (.aload_n 0, 1) := by decide +kernel
theorem dX2_laidInRow_1 : decode cX2_laidInRow 1 = .ok (.iload_n 1, 1) := by decide +kernel
theorem dX2_laidInRow_2 : decode cX2_laidInRow 2 = .ok (.invokevirtual 52, 3) := by decide +kernel
theorem dX2_laidInRow_5 : decode cX2_laidInRow 5 = .ok (.ifCond .eq 5, 3) := by decide +kernel
theorem dX2_laidInRow_8 : decode cX2_laidInRow 8 = .ok (.iconst 0, 1) := by decide +kernel
theorem dX2_laidInRow_9 : decode cX2_laidInRow 9 = .ok (.ireturn, 1) := by decide +kernel
theorem dX2_laidInRow_10 : decode cX2_laidInRow 10 = .ok (.aload_n 0, 1) := by decide +kernel
theorem dX2_laidInRow_11 : decode cX2_laidInRow 11 = .ok (.iload_n 1, 1) := by decide +kernel
theorem dX2_laidInRow_12 : decode cX2_laidInRow 12 = .ok (.iconst 1, 1) := by decide +kernel
theorem dX2_laidInRow_13 : decode cX2_laidInRow 13 = .ok (.iadd, 1) := by decide +kernel
theorem dX2_laidInRow_14 : decode cX2_laidInRow 14 = .ok (.invokevirtual 60, 3) := by decide +kernel
theorem dX2_laidInRow_17 : decode cX2_laidInRow 17 = .ok (.iconst 1, 1) := by decide +kernel
theorem dX2_laidInRow_18 : decode cX2_laidInRow 18 = .ok (.iadd, 1) := by decide +kernel
theorem dX2_laidInRow_19 : decode cX2_laidInRow 19 = .ok (.iconst 2, 1) := by decide +kernel
theorem dX2_laidInRow_20 : decode cX2_laidInRow 20 = .ok (.idiv, 1) := by decide +kernel
theorem dX2_laidInRow_21 : decode cX2_laidInRow 21 = .ok (.istore_n 2, 1) := by decide +kernel
theorem dX2_laidInRow_22 : decode cX2_laidInRow 22 = .ok (.aload_n 0, 1) := by decide +kernel
theorem dX2_laidInRow_23 : decode cX2_laidInRow 23 = .ok (.iload_n 1, 1) := by decide +kernel
theorem dX2_laidInRow_24 : decode cX2_laidInRow 24 = .ok (.iconst 1, 1) := by decide +kernel
theorem dX2_laidInRow_25 : decode cX2_laidInRow 25 = .ok (.isub, 1) := by decide +kernel
theorem dX2_laidInRow_26 : decode cX2_laidInRow 26 = .ok (.invokevirtual 60, 3) := by decide +kernel
theorem dX2_laidInRow_29 : decode cX2_laidInRow 29 = .ok (.iconst 2, 1) := by decide +kernel
theorem dX2_laidInRow_30 : decode cX2_laidInRow 30 = .ok (.idiv, 1) := by decide +kernel
theorem dX2_laidInRow_31 : decode cX2_laidInRow 31 = .ok (.istore_n 3, 1) := by decide +kernel
theorem dX2_laidInRow_32 : decode cX2_laidInRow 32 = .ok (.aload_n 0, 1) := by decide +kernel
theorem dX2_laidInRow_33 : decode cX2_laidInRow 33 = .ok (.iload_n 1, 1) := by decide +kernel
theorem dX2_laidInRow_34 : decode cX2_laidInRow 34 = .ok (.invokevirtual 56, 3) := by decide +kernel
theorem dX2_laidInRow_37 : decode cX2_laidInRow 37 = .ok (.iload_n 2, 1) := by decide +kernel
theorem dX2_laidInRow_38 : decode cX2_laidInRow 38 = .ok (.iadd, 1) := by decide +kernel
theorem dX2_laidInRow_39 : decode cX2_laidInRow 39 = .ok (.iload_n 3, 1) := by decide +kernel
theorem dX2_laidInRow_40 : decode cX2_laidInRow 40 = .ok (.iadd, 1) := by decide +kernel
theorem dX2_laidInRow_41 : decode cX2_laidInRow 41 = .ok (.bipush 15, 2) := by decide +kernel
theorem dX2_laidInRow_43 : decode cX2_laidInRow 43 = .ok (.invokestatic 46, 3) := by decide +kernel
theorem dX2_laidInRow_46 : decode cX2_laidInRow 46 = .ok (.aload_n 0, 1) := by decide +kernel
theorem dX2_laidInRow_47 : decode cX2_laidInRow 47 = .ok (.getfield 9, 3) := by decide +kernel
theorem dX2_laidInRow_50 : decode cX2_laidInRow 50 = .ok (.imul, 1) := by decide +kernel
theorem dX2_laidInRow_51 : decode cX2_laidInRow 51 = .ok (.bipush 100, 2) := by decide +kernel
theorem dX2_laidInRow_53 : decode cX2_laidInRow 53 = .ok (.idiv, 1) := by decide +kernel
theorem dX2_laidInRow_54 : decode cX2_laidInRow 54 = .ok (.ireturn, 1) := by decide +kernel
theorem dX2_start_0 : decode cX2_start 0 = .ok (.aload_n 2, 1) := by decide +kernel
theorem dX2_start_1 : decode cX2_start 1 = .ok (.iconst (-1), 1) := by decide +kernel
theorem dX2_start_2 : decode cX2_start 2 = .ok (.putfield 63, 3) := by decide +kernel
theorem dX2_start_5 : decode cX2_start 5 = .ok (.aload_n 2, 1) := by decide +kernel
theorem dX2_start_6 : decode cX2_start 6 = .ok (.iconst 1, 1) := by decide +kernel
theorem dX2_start_7 : decode cX2_start 7 = .ok (.putfield 68, 3) := by decide +kernel
theorem dX2_start_10 : decode cX2_start 10 = .ok (.aload_n 0, 1) := by decide +kernel
theorem dX2_start_11 : decode cX2_start 11 = .ok (.dup, 1) := by decide +kernel
theorem dX2_start_12 : decode cX2_start 12 = .ok (.getfield 29, 3) := by decide +kernel
theorem dX2_start_15 : decode cX2_start 15 = .ok (.iconst 1, 1) := by decide +kernel
theorem dX2_start_16 : decode cX2_start 16 = .ok (.isub, 1) := by decide +kernel
theorem dX2_start_17 : decode cX2_start 17 = .ok (.putfield 29, 3) := by decide +kernel
theorem dX2_start_20 : decode cX2_start 20 = .ok (.aload_n 0, 1) := by decide +kernel
theorem dX2_start_21 : decode cX2_start 21 = .ok (.aload_n 1, 1) := by decide +kernel
theorem dX2_start_22 : decode cX2_start 22 = .ok (.putfield 32, 3) := by decide +kernel
theorem dX2_start_25 : decode cX2_start 25 = .ok (.aload_n 0, 1) := by decide +kernel
theorem dX2_start_26 : decode cX2_start 26 = .ok (.aload_n 2, 1) := by decide +kernel
theorem dX2_start_27 : decode cX2_start 27 = .ok (.putfield 36, 3) := by decide +kernel
theorem dX2_start_30 : decode cX2_start 30 = .ok (.aload_n 0, 1) := by decide +kernel
theorem dX2_start_31 : decode cX2_start 31 = .ok (.iload_n 3, 1) := by decide +kernel
theorem dX2_start_32 : decode cX2_start 32 = .ok (.putfield 40, 3) := by decide +kernel
theorem dX2_start_35 : decode cX2_start 35 = .ok (.aload_n 0, 1) := by decide +kernel
theorem dX2_start_36 : decode cX2_start 36 = .ok (.aload_n 2, 1) := by decide +kernel
theorem dX2_start_37 : decode cX2_start 37 = .ok (.getfield 72, 3) := by decide +kernel
theorem dX2_start_40 : decode cX2_start 40 = .ok (.aload_n 2, 1) := by decide +kernel
theorem dX2_start_41 : decode cX2_start 41 = .ok (.getfield 75, 3) := by decide +kernel
theorem dX2_start_44 : decode cX2_start 44 = .ok (.isub, 1) := by decide +kernel
theorem dX2_start_45 : decode cX2_start 45 = .ok (.putfield 43, 3) := by decide +kernel
theorem dX2_start_48 : decode cX2_start 48 = .ok (.return_, 1) := by decide +kernel

def wX2_isPrinting (a0 : Nat) (S : HS) (Q : Int32 → HS → Prop) : Prop := (ok S a0 2 ∧ (∀ o1, o1 = gR S 71 a0 → ((o1 = none → Q (0 : Int32) S) ∧ (∀ q1, o1 = some q1 → Q (1 : Int32) S))))

def wX2_correctByGain (a0 : Nat) (S : HS) (Q : Int32 → HS → Prop) : Prop := (ok S a0 2 ∧ (((gI S 64 a0) ≤ 0 → (ok S a0 2 ∧ Q (gI S 65 a0) S)) ∧ (¬ (gI S 64 a0) ≤ 0 → (ok S a0 2 ∧ (ok S a0 2 ∧ (¬ (gI S 64 a0) = 0 ∧ (ok S a0 2 ∧ (∀ S1, S1 = sI S 65 a0 ((((10000 : Int32) + (gI S 64 a0)) - (1 : Int32)) / (gI S 64 a0)) → (ok S1 a0 2 ∧ Q (gI S1 65 a0) S1)))))))))

def wX2_blockNozzle (a0 : Nat) (x1 : Int32) (S : HS) (Q : HS → Prop) : Prop := ((x1 < 0 → Q S) ∧ (¬ x1 < 0 → (ok S a0 2 ∧ (∀ o1, o1 = gR S 66 a0 → (∃ q1, o1 = some q1 ∧ (ok S q1 7 ∧ (((nI (gN S q1)) ≤ x1 → Q S) ∧ (¬ (nI (gN S q1)) ≤ x1 → (ok S a0 2 ∧ (∀ o2, o2 = gR S 66 a0 → (∃ q2, o2 = some q2 ∧ (ok S q2 7 ∧ vp_in x1 (gN S q2) ∧ (∀ S1, S1 = sA S q2 x1.toNatClampNeg (1 : Int32) → Q S1)))))))))))))
def wX2_freeNozzles_L2 (c0 : Nat) : Nat → Int32 → HS → (Int32 → HS → Prop) → Prop
  | 0, _, _, _ => False
  | n + 1, m1, S, K => (ok S c0 2 ∧ (∀ o1, o1 = gR S 66 c0 → (∃ q1, o1 = some q1 ∧ (ok S q1 7 ∧ (((nI (gN S q1)) ≤ m1 → K m1 S) ∧ (¬ (nI (gN S q1)) ≤ m1 → (ok S c0 2 ∧ (∀ o2, o2 = gR S 66 c0 → (∃ q2, o2 = some q2 ∧ (ok S q2 7 ∧ vp_in m1 (gN S q2) ∧ (∀ S1, S1 = sA S q2 m1.toNatClampNeg (0 : Int32) → wX2_freeNozzles_L2 c0 n (m1 + (1 : Int32)) S1 K)))))))))))
def wX2_freeNozzles (a0 : Nat) (S : HS) (Q : HS → Prop) : Prop := (∃ n1 : Nat, wX2_freeNozzles_L2 a0 n1 (0 : Int32) S (fun u1 S2 => Q S2))
def wX2_blockedCount_L4 (c0 : Nat) : Nat → Int32 → Int32 → HS → (Int32 → Int32 → HS → Prop) → Prop
  | 0, _, _, _, _ => False
  | n + 1, m1, m2, S, K => (ok S c0 2 ∧ (∀ o1, o1 = gR S 66 c0 → (∃ q1, o1 = some q1 ∧ (ok S q1 7 ∧ (((nI (gN S q1)) ≤ m2 → K m1 m2 S) ∧ (¬ (nI (gN S q1)) ≤ m2 → (ok S c0 2 ∧ (∀ o2, o2 = gR S 66 c0 → (∃ q2, o2 = some q2 ∧ (ok S q2 7 ∧ vp_in m2 (gN S q2) ∧ (((gA S q2 m2.toNatClampNeg) = 0 → wX2_blockedCount_L4 c0 n m1 (m2 + (1 : Int32)) S K) ∧ (¬ (gA S q2 m2.toNatClampNeg) = 0 → wX2_blockedCount_L4 c0 n (m1 + (1 : Int32)) (m2 + (1 : Int32)) S K))))))))))))
def wX2_blockedCount (a0 : Nat) (S : HS) (Q : Int32 → HS → Prop) : Prop := (∃ n1 : Nat, wX2_blockedCount_L4 a0 n1 (0 : Int32) (0 : Int32) S (fun u1 u2 S1 => Q u1 S1))

def wX2_isBlocked (a0 : Nat) (x1 : Int32) (S : HS) (Q : Int32 → HS → Prop) : Prop := ((x1 < 0 → Q (0 : Int32) S) ∧ (¬ x1 < 0 → (ok S a0 2 ∧ (∀ o1, o1 = gR S 66 a0 → (∃ q1, o1 = some q1 ∧ (ok S q1 7 ∧ (((nI (gN S q1)) ≤ x1 → Q (0 : Int32) S) ∧ (¬ (nI (gN S q1)) ≤ x1 → (ok S a0 2 ∧ (∀ o2, o2 = gR S 66 a0 → (∃ q2, o2 = some q2 ∧ (ok S q2 7 ∧ vp_in x1 (gN S q2) ∧ (((gA S q2 x1.toNatClampNeg) = 0 → Q (0 : Int32) S) ∧ (¬ (gA S q2 x1.toNatClampNeg) = 0 → Q (1 : Int32) S))))))))))))))

def wX2_setDose (a0 : Nat) (x1 : Int32) (x2 : Int32) (S : HS) (Q : HS → Prop) : Prop := ((x1 < 0 → Q S) ∧ (¬ x1 < 0 → (ok S a0 2 ∧ (∀ o1, o1 = gR S 67 a0 → (∃ q1, o1 = some q1 ∧ (ok S q1 6 ∧ (((nI (gN S q1)) ≤ x1 → Q S) ∧ (¬ (nI (gN S q1)) ≤ x1 → (ok S a0 2 ∧ (∀ o2, o2 = gR S 67 a0 → (ok S a0 2 ∧ (∃ q2, o2 = some q2 ∧ (ok S q2 6 ∧ vp_in x1 (gN S q2) ∧ (∀ S1, S1 = sA S q2 x1.toNatClampNeg (if (15 : Int32) < ((x2 * (gI S 65 a0)) / (100 : Int32)) then (15 : Int32) else ((x2 * (gI S 65 a0)) / (100 : Int32))) → Q S1))))))))))))))

def wX2_doseOf (a0 : Nat) (x1 : Int32) (S : HS) (Q : Int32 → HS → Prop) : Prop := ((x1 < 0 → Q (0 : Int32) S) ∧ (¬ x1 < 0 → (ok S a0 2 ∧ (∀ o1, o1 = gR S 67 a0 → (∃ q1, o1 = some q1 ∧ (ok S q1 6 ∧ (((nI (gN S q1)) ≤ x1 → Q (0 : Int32) S) ∧ (¬ (nI (gN S q1)) ≤ x1 → (ok S a0 2 ∧ (∀ o2, o2 = gR S 67 a0 → (∃ q2, o2 = some q2 ∧ (ok S q2 6 ∧ vp_in x1 (gN S q2) ∧ Q (gA S q2 x1.toNatClampNeg) S))))))))))))

def wX2_doseHeldBack (a0 : Nat) (x1 : Int32) (S : HS) (Q : Int32 → HS → Prop) : Prop := (ok S a0 2 ∧ (wX2_isBlocked a0 x1 S (fun r1 S1 => ((r1 = 0 → Q (0 : Int32) S1) ∧ (¬ r1 = 0 → (ok S1 a0 2 ∧ (wX2_doseOf a0 x1 S1 (fun r2 S2 => Q r2 S2))))))))

def wX2_laidInRow (a0 : Nat) (x1 : Int32) (S : HS) (Q : Int32 → HS → Prop) : Prop := (ok S a0 2 ∧ (wX2_isBlocked a0 x1 S (fun r1 S1 => ((r1 = 0 → (ok S1 a0 2 ∧ (wX2_doseHeldBack a0 (x1 + (1 : Int32)) S1 (fun r2 S2 => (ok S2 a0 2 ∧ (wX2_doseHeldBack a0 (x1 - (1 : Int32)) S2 (fun r3 S3 => (ok S3 a0 2 ∧ (wX2_doseOf a0 x1 S3 (fun r4 S4 => (ok S4 a0 2 ∧ Q (((if (15 : Int32) < ((r4 + ((r2 + (1 : Int32)) / (2 : Int32))) + (r3 / (2 : Int32))) then (15 : Int32) else ((r4 + ((r2 + (1 : Int32)) / (2 : Int32))) + (r3 / (2 : Int32)))) * (gI S4 64 a0)) / (100 : Int32)) S4))))))))))) ∧ (¬ r1 = 0 → Q (0 : Int32) S1)))))

def wX2_start (a0 : Nat) (p1 : Option Nat) (p2 : Option Nat) (x3 : Int32) (S : HS) (Q : HS → Prop) : Prop := (∃ q1, p2 = some q1 ∧ (ok S q1 3 ∧ (∀ S1, S1 = sI S 102 q1 (-1 : Int32) → (ok S1 q1 3 ∧ (∀ S2, S2 = sI S1 103 q1 (1 : Int32) → (ok S2 a0 2 ∧ (ok S2 a0 2 ∧ (∀ S3, S3 = sI S2 69 a0 ((gI S2 69 a0) - (1 : Int32)) → (ok S3 a0 2 ∧ (∀ S4, S4 = sR S3 70 a0 p1 → (ok S4 a0 2 ∧ (∀ S5, S5 = sR S4 71 a0 (some q1) → (ok S5 a0 2 ∧ (∀ S6, S6 = sI S5 72 a0 x3 → (ok S6 q1 3 ∧ (ok S6 q1 3 ∧ (ok S6 a0 2 ∧ (∀ S7, S7 = sI S6 73 a0 ((gI S6 98 q1) - (gI S6 97 q1)) → Q S7))))))))))))))))))
theorem kF_RX2_36 : Cond.fieldLink RX2 36 RX2 (TX2 7).2.1 (TX2 7).2.2.1 ∈ T0 := T0_mem (i := 73) (by decide +kernel) (by decide +kernel)
theorem inT_2 : ∀ w ∈ u_ws RX2 TX2 10, w ∈ T0 := inT [78, 80, 82, 84, 86, 88, 90, 92, 94, 96] (by decide +kernel) (by decide +kernel)
theorem kF_RX2_9 : Cond.fieldLink RX2 9 RX2 (TX2 0).2.1 (TX2 0).2.2.1 ∈ T0 := T0_mem (i := 63) (by decide +kernel) (by decide +kernel)
theorem kF_RX2_15 : Cond.fieldLink RX2 15 RX2 (TX2 1).2.1 (TX2 1).2.2.1 ∈ T0 := T0_mem (i := 65) (by decide +kernel) (by decide +kernel)
theorem kF_RX2_18 : Cond.fieldLink RX2 18 RX2 (TX2 2).2.1 (TX2 2).2.2.1 ∈ T0 := T0_mem (i := 66) (by decide +kernel) (by decide +kernel)
theorem kF_RX2_22 : Cond.fieldLink RX2 22 RX2 (TX2 3).2.1 (TX2 3).2.2.1 ∈ T0 := T0_mem (i := 67) (by decide +kernel) (by decide +kernel)
theorem kM_RX2_46 : Cond.methodLink RX2 46 Lib.Math.min.name ∈ T0 := T0_mem (i := 462) (by decide +kernel) (by decide +kernel)
theorem kS_math_min : Cond.static Lib.Math.min.name ∈ T0 := T0_mem (i := 232) (by decide +kernel) (by decide +kernel)
theorem kI_java_lang_Math : Cond.initialized "java/lang/Math" ∈ T0 := T0_mem (i := 43) (by decide +kernel) (by decide +kernel)
theorem kC_math_min : Cond.code Lib.Math.min.name Lib.Math.min.code 2 (some .int) ∈ T0 := T0_mem (i := 233) (by decide +kernel) (by decide +kernel)
theorem kC_X2_isBlocked : Cond.code yX2_isBlocked cX2_isBlocked 2 (some .boolean) ∈ T0 := T0_mem (i := 470) (by decide +kernel) (by decide +kernel)
theorem kI_RX2 : Cond.initialized RX2 ∈ T0 := T0_mem (i := 34) (by decide +kernel) (by decide +kernel)
theorem kM_RX2_52 : Cond.methodLink RX2 52 yX2_isBlocked ∈ T0 := T0_mem (i := 467) (by decide +kernel) (by decide +kernel)
theorem hd_X2_isBlocked : yX2_isBlocked.cls ≠ "java/lang/invoke/MethodHandle" ∧ yX2_isBlocked.cls ≠ "java/lang/invoke/VarHandle" ∧ (parseMethodDescriptor yX2_isBlocked.desc).map (fun d => d.parameters.length) = some 1 := by decide +kernel
theorem kO_X2_isBlocked : Cond.instanceMethod yX2_isBlocked ∈ T0 := T0_mem (i := 469) (by decide +kernel) (by decide +kernel)
theorem kV_X2_isBlocked : Cond.selects RX2 yX2_isBlocked yX2_isBlocked ∈ T0 := T0_mem (i := 3) (by decide +kernel) (by decide +kernel)
theorem kC_X2_doseOf : Cond.code yX2_doseOf cX2_doseOf 2 (some .int) ∈ T0 := T0_mem (i := 478) (by decide +kernel) (by decide +kernel)
theorem kM_RX2_56 : Cond.methodLink RX2 56 yX2_doseOf ∈ T0 := T0_mem (i := 475) (by decide +kernel) (by decide +kernel)
theorem hd_X2_doseOf : yX2_doseOf.cls ≠ "java/lang/invoke/MethodHandle" ∧ yX2_doseOf.cls ≠ "java/lang/invoke/VarHandle" ∧ (parseMethodDescriptor yX2_doseOf.desc).map (fun d => d.parameters.length) = some 1 := by decide +kernel
theorem kO_X2_doseOf : Cond.instanceMethod yX2_doseOf ∈ T0 := T0_mem (i := 477) (by decide +kernel) (by decide +kernel)
theorem kV_X2_doseOf : Cond.selects RX2 yX2_doseOf yX2_doseOf ∈ T0 := T0_mem (i := 5) (by decide +kernel) (by decide +kernel)
theorem kC_X2_doseHeldBack : Cond.code yX2_doseHeldBack cX2_doseHeldBack 2 (some .int) ∈ T0 := T0_mem (i := 474) (by decide +kernel) (by decide +kernel)
theorem kM_RX2_60 : Cond.methodLink RX2 60 yX2_doseHeldBack ∈ T0 := T0_mem (i := 471) (by decide +kernel) (by decide +kernel)
theorem hd_X2_doseHeldBack : yX2_doseHeldBack.cls ≠ "java/lang/invoke/MethodHandle" ∧ yX2_doseHeldBack.cls ≠ "java/lang/invoke/VarHandle" ∧ (parseMethodDescriptor yX2_doseHeldBack.desc).map (fun d => d.parameters.length) = some 1 := by decide +kernel
theorem kO_X2_doseHeldBack : Cond.instanceMethod yX2_doseHeldBack ∈ T0 := T0_mem (i := 473) (by decide +kernel) (by decide +kernel)
theorem kV_X2_doseHeldBack : Cond.selects RX2 yX2_doseHeldBack yX2_doseHeldBack ∈ T0 := T0_mem (i := 4) (by decide +kernel) (by decide +kernel)
theorem kF_RX2_63 : Cond.fieldLinkNest RX2 63 RX3 (TX3 6).2.1 (TX3 6).2.2.1 "StitchBanner" ∈ T0 := T0_mem (i := 256) (by decide +kernel) (by decide +kernel)
theorem kF_RX2_68 : Cond.fieldLinkNest RX2 68 RX3 (TX3 7).2.1 (TX3 7).2.2.1 "StitchBanner" ∈ T0 := T0_mem (i := 259) (by decide +kernel) (by decide +kernel)
theorem kF_RX2_29 : Cond.fieldLink RX2 29 RX2 (TX2 5).2.1 (TX2 5).2.2.1 ∈ T0 := T0_mem (i := 70) (by decide +kernel) (by decide +kernel)
theorem kF_RX2_32 : Cond.fieldLink RX2 32 RX2 (TX2 6).2.1 (TX2 6).2.2.1 ∈ T0 := T0_mem (i := 72) (by decide +kernel) (by decide +kernel)
theorem kF_RX2_40 : Cond.fieldLink RX2 40 RX2 (TX2 8).2.1 (TX2 8).2.2.1 ∈ T0 := T0_mem (i := 75) (by decide +kernel) (by decide +kernel)
theorem kF_RX2_72 : Cond.fieldLinkNest RX2 72 RX3 (TX3 2).2.1 (TX3 2).2.2.1 "StitchBanner" ∈ T0 := T0_mem (i := 248) (by decide +kernel) (by decide +kernel)
theorem kF_RX2_75 : Cond.fieldLinkNest RX2 75 RX3 (TX3 1).2.1 (TX3 1).2.2.1 "StitchBanner" ∈ T0 := T0_mem (i := 245) (by decide +kernel) (by decide +kernel)
theorem kF_RX2_43 : Cond.fieldLink RX2 43 RX2 (TX2 9).2.1 (TX2 9).2.2.1 ∈ T0 := T0_mem (i := 77) (by decide +kernel) (by decide +kernel)
set_option maxHeartbeats 4000000 in
set_option maxRecDepth 100000 in
theorem met_X2_isPrinting (l : Launch) (a0 : Nat) : MI l yX2_isPrinting cX2_isPrinting 1 (some .boolean) 0 0 0 0 [.ref a0] (wX2_isPrinting a0) := by
  refine MI.of (by decide) (Nat.le_of_ble_eq_true rfl) ?_
  intro p e s m below meth c D cs lo S Q ls B hr hlk hin
  intro h hl hw
  replace hl : lv_has ls 1 [(0, .ref a0)] := hl
  refine lv_aload_n B.1.1 B.1.2.1 dX2_isPrinting_0 rfl (lv_at hl 0 rfl) ?_
  obtain ⟨hok, hw⟩ := hw
  refine q_getR B h (ci := 2) (j := 7) (code := 71) rfl inT_2 (by decide) kF_RX2_36 rfl rfl rfl (by decide) dX2_isPrinting_1 hok.1 hok.2 ?_
  obtain ⟨o1, hoo1⟩ : ∃ z, z = gR S 71 a0 := ⟨_, rfl⟩
  rw [← hoo1]
  replace hw := hw o1 hoo1
  refine q_ifnull (tgt := 11) B.1.1 B.1.2.1 dX2_isPrinting_4 (by decide) (fun hn => ?_) (fun q1 hn => ?_)
  · replace hw := hw.1 hn
    subst hn
    replace hl : lv_has ls 1 [(0, .ref a0)] := hl
    refine lv_iconst (v := (0 : Int32)) B.1.1 B.1.2.1 dX2_isPrinting_11 (by decide) ?_
    exact q_zret B hr hlk h (by decide) hw dX2_isPrinting_12 (Nat.le_of_ble_eq_true rfl) (Nat.le_of_ble_eq_true rfl)
  · replace hw := hw.2 q1 hn
    subst hn
    replace hl : lv_has ls 1 [(0, .ref a0)] := hl
    refine lv_iconst (v := (1 : Int32)) B.1.1 B.1.2.1 dX2_isPrinting_7 (by decide) ?_
    refine lv_goto (tgt := 12) B.1.1 B.1.2.1 dX2_isPrinting_8 (by decide) ?_
    exact q_zret B hr hlk h (by decide) hw dX2_isPrinting_12 (Nat.le_of_ble_eq_true rfl) (Nat.le_of_ble_eq_true rfl)
set_option maxHeartbeats 4000000 in
set_option maxRecDepth 100000 in
theorem met_X2_correctByGain (l : Launch) (a0 : Nat) : MI l yX2_correctByGain cX2_correctByGain 1 (some .int) 0 0 0 0 [.ref a0] (wX2_correctByGain a0) := by
  refine MI.of (by decide) (Nat.le_of_ble_eq_true rfl) ?_
  intro p e s m below meth c D cs lo S Q ls B hr hlk hin
  intro h hl hw
  replace hl : lv_has ls 1 [(0, .ref a0)] := hl
  refine lv_aload_n B.1.1 B.1.2.1 dX2_correctByGain_0 rfl (lv_at hl 0 rfl) ?_
  obtain ⟨hok, hw⟩ := hw
  refine q_getI B h (ci := 2) (j := 0) (code := 64) rfl inT_2 (by decide) kF_RX2_9 rfl rfl rfl (by decide) dX2_correctByGain_1 hok.1 hok.2 ?_
  refine lv_if_le (tgt := 26) B.1.1 B.1.2.1 dX2_correctByGain_4 (by decide) (fun hc => ?_) (fun hc => ?_)
  · replace hw := hw.1 hc
    refine lv_aload_n B.1.1 B.1.2.1 dX2_correctByGain_26 rfl (lv_at hl 0 rfl) ?_
    obtain ⟨hok, hw⟩ := hw
    refine q_getI B h (ci := 2) (j := 1) (code := 65) rfl inT_2 (by decide) kF_RX2_15 rfl rfl rfl (by decide) dX2_correctByGain_27 hok.1 hok.2 ?_
    exact q_iret B hr hlk h hw dX2_correctByGain_30 (Nat.le_of_ble_eq_true rfl) (Nat.le_of_ble_eq_true rfl)
  · replace hw := hw.2 hc
    refine lv_aload_n B.1.1 B.1.2.1 dX2_correctByGain_7 rfl (lv_at hl 0 rfl) ?_
    refine lv_sipush (v := (10000 : Int32)) B.1.1 B.1.2.1 dX2_correctByGain_8 (by decide) ?_
    refine lv_aload_n B.1.1 B.1.2.1 dX2_correctByGain_11 rfl (lv_at hl 0 rfl) ?_
    obtain ⟨hok, hw⟩ := hw
    refine q_getI B h (ci := 2) (j := 0) (code := 64) rfl inT_2 (by decide) kF_RX2_9 rfl rfl rfl (by decide) dX2_correctByGain_12 hok.1 hok.2 ?_
    refine lv_iadd B.1.1 B.1.2.1 dX2_correctByGain_15 ?_
    refine lv_iconst (v := (1 : Int32)) B.1.1 B.1.2.1 dX2_correctByGain_16 (by decide) ?_
    refine lv_isub B.1.1 B.1.2.1 dX2_correctByGain_17 ?_
    refine lv_aload_n B.1.1 B.1.2.1 dX2_correctByGain_18 rfl (lv_at hl 0 rfl) ?_
    obtain ⟨hok, hw⟩ := hw
    refine q_getI B h (ci := 2) (j := 0) (code := 64) rfl inT_2 (by decide) kF_RX2_9 rfl rfl rfl (by decide) dX2_correctByGain_19 hok.1 hok.2 ?_
    obtain ⟨hne, hw⟩ := hw
    refine lv_idiv B.1.1 B.1.2.1 dX2_correctByGain_22 hne ?_
    obtain ⟨hok, hw⟩ := hw
    refine q_putI B h (ci := 2) (j := 1) (code := 65) (v := ((((10000 : Int32) + (gI S 64 a0)) - (1 : Int32)) / (gI S 64 a0))) rfl inT_2 tyX2 tyX2_ok nmX2 (by decide) kF_RX2_15 rfl rfl rfl rfl (by decide) (by first | rfl | decide) (by first | rfl | decide) dX2_correctByGain_23 hok.1 hok.2 (fun H locs h9 => ?_)
    obtain ⟨S1, hS1, hh⟩ : ∃ z, z = sI S 65 a0 ((((10000 : Int32) + (gI S 64 a0)) - (1 : Int32)) / (gI S 64 a0)) ∧ Hx D cs lo s z H _ := ⟨_, rfl, h9⟩
    clear h9
    replace h := hh
    clear hh
    replace hw := hw S1 hS1
    refine lv_aload_n B.1.1 B.1.2.1 dX2_correctByGain_26 rfl (lv_at hl 0 rfl) ?_
    obtain ⟨hok, hw⟩ := hw
    refine q_getI B h (ci := 2) (j := 1) (code := 65) rfl inT_2 (by decide) kF_RX2_15 rfl rfl rfl (by decide) dX2_correctByGain_27 hok.1 hok.2 ?_
    exact q_iret B hr hlk h hw dX2_correctByGain_30 (Nat.le_of_ble_eq_true rfl) (Nat.le_of_ble_eq_true rfl)
set_option maxHeartbeats 4000000 in
set_option maxRecDepth 100000 in
theorem met_X2_blockNozzle (l : Launch) (a0 : Nat) (x1 : Int32) : MV l yX2_blockNozzle cX2_blockNozzle 2 none 0 0 0 0 [.ref a0, .int x1] (wX2_blockNozzle a0 x1) := by
  refine MV.of (by decide) (Nat.le_of_ble_eq_true rfl) ?_
  intro p e s m below meth c D cs lo S Q ls B hr hlk hin
  intro h hl hw
  replace hl : lv_has ls 2 [(0, .ref a0), (1, .int x1)] := hl
  refine lv_iload_n B.1.1 B.1.2.1 dX2_blockNozzle_0 rfl (lv_at hl 1 rfl) ?_
  refine lv_if_lt (tgt := 20) B.1.1 B.1.2.1 dX2_blockNozzle_1 (by decide) (fun hc => ?_) (fun hc => ?_)
  · replace hw := hw.1 hc
    exact q_vret B hr hlk h hw dX2_blockNozzle_20 (Nat.le_of_ble_eq_true rfl) (Nat.le_of_ble_eq_true rfl)
  · replace hw := hw.2 hc
    refine lv_iload_n B.1.1 B.1.2.1 dX2_blockNozzle_4 rfl (lv_at hl 1 rfl) ?_
    refine lv_aload_n B.1.1 B.1.2.1 dX2_blockNozzle_5 rfl (lv_at hl 0 rfl) ?_
    obtain ⟨hok, hw⟩ := hw
    refine q_getR B h (ci := 2) (j := 2) (code := 66) rfl inT_2 (by decide) kF_RX2_18 rfl rfl rfl (by decide) dX2_blockNozzle_6 hok.1 hok.2 ?_
    obtain ⟨o1, hoo1⟩ : ∃ z, z = gR S 66 a0 := ⟨_, rfl⟩
    rw [← hoo1]
    replace hw := hw o1 hoo1
    obtain ⟨q1, hn, hw⟩ := hw
    subst hn
    replace hl : lv_has ls 2 [(0, .ref a0), (1, .int x1)] := hl
    obtain ⟨hok, hw⟩ := hw
    refine q_alen B h dX2_blockNozzle_9 hok.1 (by rw [hok.2]; decide) (by rw [hok.2]; decide) ?_
    refine lv_icmp_ge (tgt := 20) B.1.1 B.1.2.1 dX2_blockNozzle_10 (by decide) (fun hc => ?_) (fun hc => ?_)
    · replace hw := hw.1 hc
      exact q_vret B hr hlk h hw dX2_blockNozzle_20 (Nat.le_of_ble_eq_true rfl) (Nat.le_of_ble_eq_true rfl)
    · replace hw := hw.2 hc
      refine lv_aload_n B.1.1 B.1.2.1 dX2_blockNozzle_13 rfl (lv_at hl 0 rfl) ?_
      obtain ⟨hok, hw⟩ := hw
      refine q_getR B h (ci := 2) (j := 2) (code := 66) rfl inT_2 (by decide) kF_RX2_18 rfl rfl rfl (by decide) dX2_blockNozzle_14 hok.1 hok.2 ?_
      obtain ⟨o2, hoo2⟩ : ∃ z, z = gR S 66 a0 := ⟨_, rfl⟩
      rw [← hoo2]
      replace hw := hw o2 hoo2
      refine lv_iload_n B.1.1 B.1.2.1 dX2_blockNozzle_17 rfl (lv_at hl 1 rfl) ?_
      refine lv_iconst (v := (1 : Int32)) B.1.1 B.1.2.1 dX2_blockNozzle_18 (by decide) ?_
      obtain ⟨q2, hn, hw⟩ := hw
      subst hn
      replace hl : lv_has ls 2 [(0, .ref a0), (1, .int x1)] := hl
      obtain ⟨hok, hin9, hw⟩ := hw
      refine q_zast B h (x := (1 : Int32)) (by first | rfl | decide) dX2_blockNozzle_19 hok.1 hok.2 hin9 (fun H locs h9 => ?_)
      obtain ⟨S1, hS1, hh⟩ : ∃ z, z = sA S q2 x1.toNatClampNeg (1 : Int32) ∧ Hx D cs lo s z H _ := ⟨_, rfl, h9⟩
      clear h9
      replace h := hh
      clear hh
      replace hw := hw S1 hS1
      exact q_vret B hr hlk h hw dX2_blockNozzle_20 (Nat.le_of_ble_eq_true rfl) (Nat.le_of_ble_eq_true rfl)
set_option maxHeartbeats 4000000 in
set_option maxRecDepth 100000 in
theorem met_X2_freeNozzles (l : Launch) (a0 : Nat) : MV l yX2_freeNozzles cX2_freeNozzles 2 none 0 0 0 0 [.ref a0] (wX2_freeNozzles a0) := by
  refine MV.of (by decide) (Nat.le_of_ble_eq_true rfl) ?_
  intro p e s m below meth c D cs lo S Q ls B hr hlk hin
  have L2 : ∀ (c0 : Nat) (K : Int32 → HS → Prop) (n : Nat) (m1 : Int32) (S : HS) (H : Heap) (locs : List Loc) (ls : Array Slot), Hx D cs lo s S H locs → lv_has ls 2 [(0, .ref c0), (1, .int m1)] → wX2_freeNozzles_L2 c0 n m1 S K → (∀ (m1 : Int32) (S : HS) (H : Heap) (locs : List Loc) (ls : Array Slot), Hx D cs lo s S H locs → lv_has ls 2 [(0, .ref c0), (1, .int m1)] → K m1 S → W p l e ({ frames := 0, cells := 0, slots := 0, locals := 0 } : Room) s m [.ref a0].toArray below meth c H locs 0 0 (MQ below (va_Qv Q (fun S' t => hp D cs lo S' t.heap) (fun q => lo ≤ q)) [.ref a0].toArray s 0 0 (fun q => lo ≤ q)) (F0 m 24 ls [])) → W p l e ({ frames := 0, cells := 0, slots := 0, locals := 0 } : Room) s m [.ref a0].toArray below meth c H locs 0 0 (MQ below (va_Qv Q (fun S' t => hp D cs lo S' t.heap) (fun q => lo ≤ q)) [.ref a0].toArray s 0 0 (fun q => lo ≤ q)) (F0 m 2 ls []) := by
    intro c0 K n
    induction n with
    | zero => intro m1 S H locs ls h hl hw hk; exact False.elim hw
    | succ n ih =>
      intro m1 S H locs ls h hl hw hk
      refine lv_iload_n B.1.1 B.1.2.1 dX2_freeNozzles_2 rfl (lv_at hl 1 rfl) ?_
      refine lv_aload_n B.1.1 B.1.2.1 dX2_freeNozzles_3 rfl (lv_at hl 0 rfl) ?_
      obtain ⟨hok, hw⟩ := hw
      refine q_getR B h (ci := 2) (j := 2) (code := 66) rfl inT_2 (by decide) kF_RX2_18 rfl rfl rfl (by decide) dX2_freeNozzles_4 hok.1 hok.2 ?_
      obtain ⟨o1, hoo1⟩ : ∃ z, z = gR S 66 c0 := ⟨_, rfl⟩
      rw [← hoo1]
      replace hw := hw o1 hoo1
      obtain ⟨q1, hn, hw⟩ := hw
      subst hn
      replace hl : lv_has ls 2 [(0, .ref c0), (1, .int m1)] := hl
      obtain ⟨hok, hw⟩ := hw
      refine q_alen B h dX2_freeNozzles_7 hok.1 (by rw [hok.2]; decide) (by rw [hok.2]; decide) ?_
      refine lv_icmp_ge (tgt := 24) B.1.1 B.1.2.1 dX2_freeNozzles_8 (by decide) (fun hc => ?_) (fun hc => ?_)
      · replace hw := hw.1 hc
        exact hk m1 _ _ _ ls h (lv_sub hl [0, 1] rfl) hw
      · replace hw := hw.2 hc
        refine lv_aload_n B.1.1 B.1.2.1 dX2_freeNozzles_11 rfl (lv_at hl 0 rfl) ?_
        obtain ⟨hok, hw⟩ := hw
        refine q_getR B h (ci := 2) (j := 2) (code := 66) rfl inT_2 (by decide) kF_RX2_18 rfl rfl rfl (by decide) dX2_freeNozzles_12 hok.1 hok.2 ?_
        obtain ⟨o2, hoo2⟩ : ∃ z, z = gR S 66 c0 := ⟨_, rfl⟩
        rw [← hoo2]
        replace hw := hw o2 hoo2
        refine lv_iload_n B.1.1 B.1.2.1 dX2_freeNozzles_15 rfl (lv_at hl 1 rfl) ?_
        refine lv_iconst (v := (0 : Int32)) B.1.1 B.1.2.1 dX2_freeNozzles_16 (by decide) ?_
        obtain ⟨q2, hn, hw⟩ := hw
        subst hn
        replace hl : lv_has ls 2 [(0, .ref c0), (1, .int m1)] := hl
        obtain ⟨hok, hin9, hw⟩ := hw
        refine q_zast B h (x := (0 : Int32)) (by first | rfl | decide) dX2_freeNozzles_17 hok.1 hok.2 hin9 (fun H locs h9 => ?_)
        obtain ⟨S1, hS1, hh⟩ : ∃ z, z = sA S q2 m1.toNatClampNeg (0 : Int32) ∧ Hx D cs lo s z H _ := ⟨_, rfl, h9⟩
        clear h9
        replace h := hh
        clear hh
        replace hw := hw S1 hS1
        refine lv_iinc (i := 1) (v := (m1 + (1 : Int32))) (lv' := [(1, .int (m1 + (1 : Int32))), (0, .ref c0)]) B.1.1 B.1.2.1 dX2_freeNozzles_18 hl (k := 1) rfl rfl (by decide) rfl (fun ls hl9 => ?_)
        replace hl := hl9
        clear hl9
        refine lv_goto (tgt := 2) B.1.1 B.1.2.1 dX2_freeNozzles_21 (by decide) ?_
        exact ih (m1 + (1 : Int32)) _ _ _ ls h (lv_sub hl [1, 0] rfl) hw hk
  intro h hl hw
  replace hl : lv_has ls 2 [(0, .ref a0)] := hl
  refine lv_iconst (v := (0 : Int32)) B.1.1 B.1.2.1 dX2_freeNozzles_0 (by decide) ?_
  refine lv_istore_n (i := 1) (lv' := [(1, .int (0 : Int32)), (0, .ref a0)]) B.1.1 B.1.2.1 dX2_freeNozzles_1 rfl hl (by decide) rfl (fun ls hl9 => ?_)
  replace hl := hl9
  clear hl9
  obtain ⟨n1, hw⟩ := hw
  refine L2 a0 _ n1 (0 : Int32) _ _ _ ls h (lv_sub hl [1, 0] rfl) hw (fun u1 S2 H locs ls h9 hl9 hw9 => ?_)
  replace hw := hw9
  clear hw9
  replace h := h9
  clear h9
  replace hl := hl9
  clear hl9
  exact q_vret B hr hlk h hw dX2_freeNozzles_24 (Nat.le_of_ble_eq_true rfl) (Nat.le_of_ble_eq_true rfl)
set_option maxHeartbeats 4000000 in
set_option maxRecDepth 100000 in
theorem met_X2_blockedCount (l : Launch) (a0 : Nat) : MI l yX2_blockedCount cX2_blockedCount 3 (some .int) 0 0 0 0 [.ref a0] (wX2_blockedCount a0) := by
  refine MI.of (by decide) (Nat.le_of_ble_eq_true rfl) ?_
  intro p e s m below meth c D cs lo S Q ls B hr hlk hin
  have L4 : ∀ (c0 : Nat) (K : Int32 → Int32 → HS → Prop) (n : Nat) (m1 : Int32) (m2 : Int32) (S : HS) (H : Heap) (locs : List Loc) (ls : Array Slot), Hx D cs lo s S H locs → lv_has ls 3 [(0, .ref c0), (1, .int m1), (2, .int m2)] → wX2_blockedCount_L4 c0 n m1 m2 S K → (∀ (m1 : Int32) (m2 : Int32) (S : HS) (H : Heap) (locs : List Loc) (ls : Array Slot), Hx D cs lo s S H locs → lv_has ls 3 [(0, .ref c0), (1, .int m1), (2, .int m2)] → K m1 m2 S → W p l e ({ frames := 0, cells := 0, slots := 0, locals := 0 } : Room) s m [.ref a0].toArray below meth c H locs 0 0 (MQ below (va_Qi Q (fun S' t => hp D cs lo S' t.heap) (fun q => lo ≤ q)) [.ref a0].toArray s 0 0 (fun q => lo ≤ q)) (F0 m 31 ls [])) → W p l e ({ frames := 0, cells := 0, slots := 0, locals := 0 } : Room) s m [.ref a0].toArray below meth c H locs 0 0 (MQ below (va_Qi Q (fun S' t => hp D cs lo S' t.heap) (fun q => lo ≤ q)) [.ref a0].toArray s 0 0 (fun q => lo ≤ q)) (F0 m 4 ls []) := by
    intro c0 K n
    induction n with
    | zero => intro m1 m2 S H locs ls h hl hw hk; exact False.elim hw
    | succ n ih =>
      intro m1 m2 S H locs ls h hl hw hk
      refine lv_iload_n B.1.1 B.1.2.1 dX2_blockedCount_4 rfl (lv_at hl 2 rfl) ?_
      refine lv_aload_n B.1.1 B.1.2.1 dX2_blockedCount_5 rfl (lv_at hl 0 rfl) ?_
      obtain ⟨hok, hw⟩ := hw
      refine q_getR B h (ci := 2) (j := 2) (code := 66) rfl inT_2 (by decide) kF_RX2_18 rfl rfl rfl (by decide) dX2_blockedCount_6 hok.1 hok.2 ?_
      obtain ⟨o1, hoo1⟩ : ∃ z, z = gR S 66 c0 := ⟨_, rfl⟩
      rw [← hoo1]
      replace hw := hw o1 hoo1
      obtain ⟨q1, hn, hw⟩ := hw
      subst hn
      replace hl : lv_has ls 3 [(0, .ref c0), (1, .int m1), (2, .int m2)] := hl
      obtain ⟨hok, hw⟩ := hw
      refine q_alen B h dX2_blockedCount_9 hok.1 (by rw [hok.2]; decide) (by rw [hok.2]; decide) ?_
      refine lv_icmp_ge (tgt := 31) B.1.1 B.1.2.1 dX2_blockedCount_10 (by decide) (fun hc => ?_) (fun hc => ?_)
      · replace hw := hw.1 hc
        exact hk m1 m2 _ _ _ ls h (lv_sub hl [0, 1, 2] rfl) hw
      · replace hw := hw.2 hc
        refine lv_aload_n B.1.1 B.1.2.1 dX2_blockedCount_13 rfl (lv_at hl 0 rfl) ?_
        obtain ⟨hok, hw⟩ := hw
        refine q_getR B h (ci := 2) (j := 2) (code := 66) rfl inT_2 (by decide) kF_RX2_18 rfl rfl rfl (by decide) dX2_blockedCount_14 hok.1 hok.2 ?_
        obtain ⟨o2, hoo2⟩ : ∃ z, z = gR S 66 c0 := ⟨_, rfl⟩
        rw [← hoo2]
        replace hw := hw o2 hoo2
        refine lv_iload_n B.1.1 B.1.2.1 dX2_blockedCount_17 rfl (lv_at hl 2 rfl) ?_
        obtain ⟨q2, hn, hw⟩ := hw
        subst hn
        replace hl : lv_has ls 3 [(0, .ref c0), (1, .int m1), (2, .int m2)] := hl
        obtain ⟨hok, hin9, hw⟩ := hw
        refine q_zald B h dX2_blockedCount_18 hok.1 hok.2 hin9 ?_
        refine lv_if_eq (tgt := 25) B.1.1 B.1.2.1 dX2_blockedCount_19 (by decide) (fun hc => ?_) (fun hc => ?_)
        · replace hw := hw.1 hc
          refine lv_iinc (i := 2) (v := (m2 + (1 : Int32))) (lv' := [(2, .int (m2 + (1 : Int32))), (0, .ref c0), (1, .int m1)]) B.1.1 B.1.2.1 dX2_blockedCount_25 hl (k := 2) rfl rfl (by decide) rfl (fun ls hl9 => ?_)
          replace hl := hl9
          clear hl9
          refine lv_goto (tgt := 4) B.1.1 B.1.2.1 dX2_blockedCount_28 (by decide) ?_
          exact ih m1 (m2 + (1 : Int32)) _ _ _ ls h (lv_sub hl [1, 2, 0] rfl) hw hk
        · replace hw := hw.2 hc
          refine lv_iinc (i := 1) (v := (m1 + (1 : Int32))) (lv' := [(1, .int (m1 + (1 : Int32))), (0, .ref c0), (2, .int m2)]) B.1.1 B.1.2.1 dX2_blockedCount_22 hl (k := 1) rfl rfl (by decide) rfl (fun ls hl9 => ?_)
          replace hl := hl9
          clear hl9
          refine lv_iinc (i := 2) (v := (m2 + (1 : Int32))) (lv' := [(2, .int (m2 + (1 : Int32))), (1, .int (m1 + (1 : Int32))), (0, .ref c0)]) B.1.1 B.1.2.1 dX2_blockedCount_25 hl (k := 2) rfl rfl (by decide) rfl (fun ls hl9 => ?_)
          replace hl := hl9
          clear hl9
          refine lv_goto (tgt := 4) B.1.1 B.1.2.1 dX2_blockedCount_28 (by decide) ?_
          exact ih (m1 + (1 : Int32)) (m2 + (1 : Int32)) _ _ _ ls h (lv_sub hl [2, 1, 0] rfl) hw hk
  intro h hl hw
  replace hl : lv_has ls 3 [(0, .ref a0)] := hl
  refine lv_iconst (v := (0 : Int32)) B.1.1 B.1.2.1 dX2_blockedCount_0 (by decide) ?_
  refine lv_istore_n (i := 1) (lv' := [(1, .int (0 : Int32)), (0, .ref a0)]) B.1.1 B.1.2.1 dX2_blockedCount_1 rfl hl (by decide) rfl (fun ls hl9 => ?_)
  replace hl := hl9
  clear hl9
  refine lv_iconst (v := (0 : Int32)) B.1.1 B.1.2.1 dX2_blockedCount_2 (by decide) ?_
  refine lv_istore_n (i := 2) (lv' := [(2, .int (0 : Int32)), (1, .int (0 : Int32)), (0, .ref a0)]) B.1.1 B.1.2.1 dX2_blockedCount_3 rfl hl (by decide) rfl (fun ls hl9 => ?_)
  replace hl := hl9
  clear hl9
  obtain ⟨n1, hw⟩ := hw
  refine L4 a0 _ n1 (0 : Int32) (0 : Int32) _ _ _ ls h (lv_sub hl [2, 1, 0] rfl) hw (fun u1 u2 S1 H locs ls h9 hl9 hw9 => ?_)
  replace hw := hw9
  clear hw9
  replace h := h9
  clear h9
  replace hl := hl9
  clear hl9
  refine lv_iload_n B.1.1 B.1.2.1 dX2_blockedCount_31 rfl (lv_at hl 1 rfl) ?_
  exact q_iret B hr hlk h hw dX2_blockedCount_32 (Nat.le_of_ble_eq_true rfl) (Nat.le_of_ble_eq_true rfl)
set_option maxHeartbeats 4000000 in
set_option maxRecDepth 100000 in
theorem met_X2_isBlocked (l : Launch) (a0 : Nat) (x1 : Int32) : MI l yX2_isBlocked cX2_isBlocked 2 (some .boolean) 0 0 0 0 [.ref a0, .int x1] (wX2_isBlocked a0 x1) := by
  refine MI.of (by decide) (Nat.le_of_ble_eq_true rfl) ?_
  intro p e s m below meth c D cs lo S Q ls B hr hlk hin
  intro h hl hw
  replace hl : lv_has ls 2 [(0, .ref a0), (1, .int x1)] := hl
  refine lv_iload_n B.1.1 B.1.2.1 dX2_isBlocked_0 rfl (lv_at hl 1 rfl) ?_
  refine lv_if_lt (tgt := 26) B.1.1 B.1.2.1 dX2_isBlocked_1 (by decide) (fun hc => ?_) (fun hc => ?_)
  · replace hw := hw.1 hc
    refine lv_iconst (v := (0 : Int32)) B.1.1 B.1.2.1 dX2_isBlocked_26 (by decide) ?_
    exact q_zret B hr hlk h (by decide) hw dX2_isBlocked_27 (Nat.le_of_ble_eq_true rfl) (Nat.le_of_ble_eq_true rfl)
  · replace hw := hw.2 hc
    refine lv_iload_n B.1.1 B.1.2.1 dX2_isBlocked_4 rfl (lv_at hl 1 rfl) ?_
    refine lv_aload_n B.1.1 B.1.2.1 dX2_isBlocked_5 rfl (lv_at hl 0 rfl) ?_
    obtain ⟨hok, hw⟩ := hw
    refine q_getR B h (ci := 2) (j := 2) (code := 66) rfl inT_2 (by decide) kF_RX2_18 rfl rfl rfl (by decide) dX2_isBlocked_6 hok.1 hok.2 ?_
    obtain ⟨o1, hoo1⟩ : ∃ z, z = gR S 66 a0 := ⟨_, rfl⟩
    rw [← hoo1]
    replace hw := hw o1 hoo1
    obtain ⟨q1, hn, hw⟩ := hw
    subst hn
    replace hl : lv_has ls 2 [(0, .ref a0), (1, .int x1)] := hl
    obtain ⟨hok, hw⟩ := hw
    refine q_alen B h dX2_isBlocked_9 hok.1 (by rw [hok.2]; decide) (by rw [hok.2]; decide) ?_
    refine lv_icmp_ge (tgt := 26) B.1.1 B.1.2.1 dX2_isBlocked_10 (by decide) (fun hc => ?_) (fun hc => ?_)
    · replace hw := hw.1 hc
      refine lv_iconst (v := (0 : Int32)) B.1.1 B.1.2.1 dX2_isBlocked_26 (by decide) ?_
      exact q_zret B hr hlk h (by decide) hw dX2_isBlocked_27 (Nat.le_of_ble_eq_true rfl) (Nat.le_of_ble_eq_true rfl)
    · replace hw := hw.2 hc
      refine lv_aload_n B.1.1 B.1.2.1 dX2_isBlocked_13 rfl (lv_at hl 0 rfl) ?_
      obtain ⟨hok, hw⟩ := hw
      refine q_getR B h (ci := 2) (j := 2) (code := 66) rfl inT_2 (by decide) kF_RX2_18 rfl rfl rfl (by decide) dX2_isBlocked_14 hok.1 hok.2 ?_
      obtain ⟨o2, hoo2⟩ : ∃ z, z = gR S 66 a0 := ⟨_, rfl⟩
      rw [← hoo2]
      replace hw := hw o2 hoo2
      refine lv_iload_n B.1.1 B.1.2.1 dX2_isBlocked_17 rfl (lv_at hl 1 rfl) ?_
      obtain ⟨q2, hn, hw⟩ := hw
      subst hn
      replace hl : lv_has ls 2 [(0, .ref a0), (1, .int x1)] := hl
      obtain ⟨hok, hin9, hw⟩ := hw
      refine q_zald B h dX2_isBlocked_18 hok.1 hok.2 hin9 ?_
      refine lv_if_eq (tgt := 26) B.1.1 B.1.2.1 dX2_isBlocked_19 (by decide) (fun hc => ?_) (fun hc => ?_)
      · replace hw := hw.1 hc
        refine lv_iconst (v := (0 : Int32)) B.1.1 B.1.2.1 dX2_isBlocked_26 (by decide) ?_
        exact q_zret B hr hlk h (by decide) hw dX2_isBlocked_27 (Nat.le_of_ble_eq_true rfl) (Nat.le_of_ble_eq_true rfl)
      · replace hw := hw.2 hc
        refine lv_iconst (v := (1 : Int32)) B.1.1 B.1.2.1 dX2_isBlocked_22 (by decide) ?_
        refine lv_goto (tgt := 27) B.1.1 B.1.2.1 dX2_isBlocked_23 (by decide) ?_
        exact q_zret B hr hlk h (by decide) hw dX2_isBlocked_27 (Nat.le_of_ble_eq_true rfl) (Nat.le_of_ble_eq_true rfl)
set_option maxHeartbeats 4000000 in
set_option maxRecDepth 100000 in
theorem met_X2_setDose (l : Launch) (a0 : Nat) (x1 : Int32) (x2 : Int32) : MV l yX2_setDose cX2_setDose 3 none 1 15 0 0 [.ref a0, .int x1, .int x2] (wX2_setDose a0 x1 x2) := by
  refine MV.of (by decide) (Nat.le_of_ble_eq_true rfl) ?_
  intro p e s m below meth c D cs lo S Q ls B hr hlk hin
  intro h hl hw
  replace hl : lv_has ls 3 [(0, .ref a0), (1, .int x1), (2, .int x2)] := hl
  refine lv_iload_n B.1.1 B.1.2.1 dX2_setDose_0 rfl (lv_at hl 1 rfl) ?_
  refine lv_if_lt (tgt := 33) B.1.1 B.1.2.1 dX2_setDose_1 (by decide) (fun hc => ?_) (fun hc => ?_)
  · replace hw := hw.1 hc
    exact q_vret B hr hlk h hw dX2_setDose_33 (Nat.le_of_ble_eq_true rfl) (Nat.le_of_ble_eq_true rfl)
  · replace hw := hw.2 hc
    refine lv_iload_n B.1.1 B.1.2.1 dX2_setDose_4 rfl (lv_at hl 1 rfl) ?_
    refine lv_aload_n B.1.1 B.1.2.1 dX2_setDose_5 rfl (lv_at hl 0 rfl) ?_
    obtain ⟨hok, hw⟩ := hw
    refine q_getR B h (ci := 2) (j := 3) (code := 67) rfl inT_2 (by decide) kF_RX2_22 rfl rfl rfl (by decide) dX2_setDose_6 hok.1 hok.2 ?_
    obtain ⟨o1, hoo1⟩ : ∃ z, z = gR S 67 a0 := ⟨_, rfl⟩
    rw [← hoo1]
    replace hw := hw o1 hoo1
    obtain ⟨q1, hn, hw⟩ := hw
    subst hn
    replace hl : lv_has ls 3 [(0, .ref a0), (1, .int x1), (2, .int x2)] := hl
    obtain ⟨hok, hw⟩ := hw
    refine q_alen B h dX2_setDose_9 hok.1 (by rw [hok.2]; decide) (by rw [hok.2]; decide) ?_
    refine lv_icmp_ge (tgt := 33) B.1.1 B.1.2.1 dX2_setDose_10 (by decide) (fun hc => ?_) (fun hc => ?_)
    · replace hw := hw.1 hc
      exact q_vret B hr hlk h hw dX2_setDose_33 (Nat.le_of_ble_eq_true rfl) (Nat.le_of_ble_eq_true rfl)
    · replace hw := hw.2 hc
      refine lv_aload_n B.1.1 B.1.2.1 dX2_setDose_13 rfl (lv_at hl 0 rfl) ?_
      obtain ⟨hok, hw⟩ := hw
      refine q_getR B h (ci := 2) (j := 3) (code := 67) rfl inT_2 (by decide) kF_RX2_22 rfl rfl rfl (by decide) dX2_setDose_14 hok.1 hok.2 ?_
      obtain ⟨o2, hoo2⟩ : ∃ z, z = gR S 67 a0 := ⟨_, rfl⟩
      rw [← hoo2]
      replace hw := hw o2 hoo2
      refine lv_iload_n B.1.1 B.1.2.1 dX2_setDose_17 rfl (lv_at hl 1 rfl) ?_
      refine lv_iload_n B.1.1 B.1.2.1 dX2_setDose_18 rfl (lv_at hl 2 rfl) ?_
      refine lv_aload_n B.1.1 B.1.2.1 dX2_setDose_19 rfl (lv_at hl 0 rfl) ?_
      obtain ⟨hok, hw⟩ := hw
      refine q_getI B h (ci := 2) (j := 1) (code := 65) rfl inT_2 (by decide) kF_RX2_15 rfl rfl rfl (by decide) dX2_setDose_20 hok.1 hok.2 ?_
      refine lv_imul B.1.1 B.1.2.1 dX2_setDose_23 ?_
      refine lv_bipush (v := (100 : Int32)) B.1.1 B.1.2.1 dX2_setDose_24 (by decide) ?_
      refine lv_idiv B.1.1 B.1.2.1 dX2_setDose_26 (by decide) ?_
      refine lv_bipush (v := (15 : Int32)) B.1.1 B.1.2.1 dX2_setDose_27 (by decide) ?_
      refine q_min B kM_RX2_46 kS_math_min kI_java_lang_Math kC_math_min hl.1 (Nat.le_of_ble_eq_true rfl) (by simp [rf_cat, cat_i, cat_r, cat_n, cat_j, cat_f, cat_d]) (Nat.le_of_ble_eq_true rfl) (Nat.le_of_ble_eq_true rfl) dX2_setDose_29 ?_
      obtain ⟨q2, hn, hw⟩ := hw
      subst hn
      replace hl : lv_has ls 3 [(0, .ref a0), (1, .int x1), (2, .int x2)] := hl
      obtain ⟨hok, hin9, hw⟩ := hw
      refine q_iast B h dX2_setDose_32 hok.1 hok.2 hin9 (fun H locs h9 => ?_)
      obtain ⟨S1, hS1, hh⟩ : ∃ z, z = sA S q2 x1.toNatClampNeg (if (15 : Int32) < ((x2 * (gI S 65 a0)) / (100 : Int32)) then (15 : Int32) else ((x2 * (gI S 65 a0)) / (100 : Int32))) ∧ Hx D cs lo s z H _ := ⟨_, rfl, h9⟩
      clear h9
      replace h := hh
      clear hh
      replace hw := hw S1 hS1
      exact q_vret B hr hlk h hw dX2_setDose_33 (Nat.le_of_ble_eq_true rfl) (Nat.le_of_ble_eq_true rfl)
set_option maxHeartbeats 4000000 in
set_option maxRecDepth 100000 in
theorem met_X2_doseOf (l : Launch) (a0 : Nat) (x1 : Int32) : MI l yX2_doseOf cX2_doseOf 2 (some .int) 0 0 0 0 [.ref a0, .int x1] (wX2_doseOf a0 x1) := by
  refine MI.of (by decide) (Nat.le_of_ble_eq_true rfl) ?_
  intro p e s m below meth c D cs lo S Q ls B hr hlk hin
  intro h hl hw
  replace hl : lv_has ls 2 [(0, .ref a0), (1, .int x1)] := hl
  refine lv_iload_n B.1.1 B.1.2.1 dX2_doseOf_0 rfl (lv_at hl 1 rfl) ?_
  refine lv_if_lt (tgt := 22) B.1.1 B.1.2.1 dX2_doseOf_1 (by decide) (fun hc => ?_) (fun hc => ?_)
  · replace hw := hw.1 hc
    refine lv_iconst (v := (0 : Int32)) B.1.1 B.1.2.1 dX2_doseOf_22 (by decide) ?_
    exact q_iret B hr hlk h hw dX2_doseOf_23 (Nat.le_of_ble_eq_true rfl) (Nat.le_of_ble_eq_true rfl)
  · replace hw := hw.2 hc
    refine lv_iload_n B.1.1 B.1.2.1 dX2_doseOf_4 rfl (lv_at hl 1 rfl) ?_
    refine lv_aload_n B.1.1 B.1.2.1 dX2_doseOf_5 rfl (lv_at hl 0 rfl) ?_
    obtain ⟨hok, hw⟩ := hw
    refine q_getR B h (ci := 2) (j := 3) (code := 67) rfl inT_2 (by decide) kF_RX2_22 rfl rfl rfl (by decide) dX2_doseOf_6 hok.1 hok.2 ?_
    obtain ⟨o1, hoo1⟩ : ∃ z, z = gR S 67 a0 := ⟨_, rfl⟩
    rw [← hoo1]
    replace hw := hw o1 hoo1
    obtain ⟨q1, hn, hw⟩ := hw
    subst hn
    replace hl : lv_has ls 2 [(0, .ref a0), (1, .int x1)] := hl
    obtain ⟨hok, hw⟩ := hw
    refine q_alen B h dX2_doseOf_9 hok.1 (by rw [hok.2]; decide) (by rw [hok.2]; decide) ?_
    refine lv_icmp_ge (tgt := 22) B.1.1 B.1.2.1 dX2_doseOf_10 (by decide) (fun hc => ?_) (fun hc => ?_)
    · replace hw := hw.1 hc
      refine lv_iconst (v := (0 : Int32)) B.1.1 B.1.2.1 dX2_doseOf_22 (by decide) ?_
      exact q_iret B hr hlk h hw dX2_doseOf_23 (Nat.le_of_ble_eq_true rfl) (Nat.le_of_ble_eq_true rfl)
    · replace hw := hw.2 hc
      refine lv_aload_n B.1.1 B.1.2.1 dX2_doseOf_13 rfl (lv_at hl 0 rfl) ?_
      obtain ⟨hok, hw⟩ := hw
      refine q_getR B h (ci := 2) (j := 3) (code := 67) rfl inT_2 (by decide) kF_RX2_22 rfl rfl rfl (by decide) dX2_doseOf_14 hok.1 hok.2 ?_
      obtain ⟨o2, hoo2⟩ : ∃ z, z = gR S 67 a0 := ⟨_, rfl⟩
      rw [← hoo2]
      replace hw := hw o2 hoo2
      refine lv_iload_n B.1.1 B.1.2.1 dX2_doseOf_17 rfl (lv_at hl 1 rfl) ?_
      obtain ⟨q2, hn, hw⟩ := hw
      subst hn
      replace hl : lv_has ls 2 [(0, .ref a0), (1, .int x1)] := hl
      obtain ⟨hok, hin9, hw⟩ := hw
      refine q_iald B h dX2_doseOf_18 hok.1 hok.2 hin9 ?_
      refine lv_goto (tgt := 23) B.1.1 B.1.2.1 dX2_doseOf_19 (by decide) ?_
      exact q_iret B hr hlk h hw dX2_doseOf_23 (Nat.le_of_ble_eq_true rfl) (Nat.le_of_ble_eq_true rfl)
set_option maxHeartbeats 4000000 in
set_option maxRecDepth 100000 in
theorem met_X2_doseHeldBack (l : Launch) (a0 : Nat) (x1 : Int32) : MI l yX2_doseHeldBack cX2_doseHeldBack 2 (some .int) 1 21 0 0 [.ref a0, .int x1] (wX2_doseHeldBack a0 x1) := by
  refine MI.of (by decide) (Nat.le_of_ble_eq_true rfl) ?_
  intro p e s m below meth c D cs lo S Q ls B hr hlk hin
  intro h hl hw
  replace hl : lv_has ls 2 [(0, .ref a0), (1, .int x1)] := hl
  refine lv_aload_n B.1.1 B.1.2.1 dX2_doseHeldBack_0 rfl (lv_at hl 0 rfl) ?_
  refine lv_iload_n B.1.1 B.1.2.1 dX2_doseHeldBack_1 rfl (lv_at hl 1 rfl) ?_
  obtain ⟨hok, hw⟩ := hw
  refine q_callIV B h (met_X2_isBlocked l a0 x1) (CB B 1 kC_X2_isBlocked kI_RX2 kM_RX2_52 hd_X2_isBlocked ⟨Nat.le_of_ble_eq_true rfl, Nat.le_of_ble_eq_true rfl⟩) kO_X2_isBlocked kV_X2_isBlocked (ci := 2) rfl (by decide) hok.1 hok.2 (rest := []) rfl rfl hl.1 (Nat.le_of_ble_eq_true rfl) dX2_doseHeldBack_2 ⟨Nat.le_of_ble_eq_true rfl, Nat.le_of_ble_eq_true rfl⟩ hw (fun r1 S1 H locs hw9 h9 => ?_)
  replace hw := hw9
  clear hw9
  replace h := h9
  clear h9
  refine lv_if_eq (tgt := 16) B.1.1 B.1.2.1 dX2_doseHeldBack_5 (by decide) (fun hc => ?_) (fun hc => ?_)
  · replace hw := hw.1 hc
    refine lv_iconst (v := (0 : Int32)) B.1.1 B.1.2.1 dX2_doseHeldBack_16 (by decide) ?_
    exact q_iret B hr hlk h hw dX2_doseHeldBack_17 (Nat.le_of_ble_eq_true rfl) (Nat.le_of_ble_eq_true rfl)
  · replace hw := hw.2 hc
    refine lv_aload_n B.1.1 B.1.2.1 dX2_doseHeldBack_8 rfl (lv_at hl 0 rfl) ?_
    refine lv_iload_n B.1.1 B.1.2.1 dX2_doseHeldBack_9 rfl (lv_at hl 1 rfl) ?_
    obtain ⟨hok, hw⟩ := hw
    refine q_callIV B h (met_X2_doseOf l a0 x1) (CB B 1 kC_X2_doseOf kI_RX2 kM_RX2_56 hd_X2_doseOf ⟨Nat.le_of_ble_eq_true rfl, Nat.le_of_ble_eq_true rfl⟩) kO_X2_doseOf kV_X2_doseOf (ci := 2) rfl (by decide) hok.1 hok.2 (rest := []) rfl rfl hl.1 (Nat.le_of_ble_eq_true rfl) dX2_doseHeldBack_10 ⟨Nat.le_of_ble_eq_true rfl, Nat.le_of_ble_eq_true rfl⟩ hw (fun r2 S2 H locs hw9 h9 => ?_)
    replace hw := hw9
    clear hw9
    replace h := h9
    clear h9
    refine lv_goto (tgt := 17) B.1.1 B.1.2.1 dX2_doseHeldBack_13 (by decide) ?_
    exact q_iret B hr hlk h hw dX2_doseHeldBack_17 (Nat.le_of_ble_eq_true rfl) (Nat.le_of_ble_eq_true rfl)
set_option maxHeartbeats 4000000 in
set_option maxRecDepth 100000 in
theorem met_X2_laidInRow (l : Launch) (a0 : Nat) (x1 : Int32) : MI l yX2_laidInRow cX2_laidInRow 4 (some .int) 2 42 0 0 [.ref a0, .int x1] (wX2_laidInRow a0 x1) := by
  refine MI.of (by decide) (Nat.le_of_ble_eq_true rfl) ?_
  intro p e s m below meth c D cs lo S Q ls B hr hlk hin
  intro h hl hw
  replace hl : lv_has ls 4 [(0, .ref a0), (1, .int x1)] := hl
  refine lv_aload_n B.1.1 B.1.2.1 dX2_laidInRow_0 rfl (lv_at hl 0 rfl) ?_
  refine lv_iload_n B.1.1 B.1.2.1 dX2_laidInRow_1 rfl (lv_at hl 1 rfl) ?_
  obtain ⟨hok, hw⟩ := hw
  refine q_callIV B h (met_X2_isBlocked l a0 x1) (CB B 1 kC_X2_isBlocked kI_RX2 kM_RX2_52 hd_X2_isBlocked ⟨Nat.le_of_ble_eq_true rfl, Nat.le_of_ble_eq_true rfl⟩) kO_X2_isBlocked kV_X2_isBlocked (ci := 2) rfl (by decide) hok.1 hok.2 (rest := []) rfl rfl hl.1 (Nat.le_of_ble_eq_true rfl) dX2_laidInRow_2 ⟨Nat.le_of_ble_eq_true rfl, Nat.le_of_ble_eq_true rfl⟩ hw (fun r1 S1 H locs hw9 h9 => ?_)
  replace hw := hw9
  clear hw9
  replace h := h9
  clear h9
  refine lv_if_eq (tgt := 10) B.1.1 B.1.2.1 dX2_laidInRow_5 (by decide) (fun hc => ?_) (fun hc => ?_)
  · replace hw := hw.1 hc
    refine lv_aload_n B.1.1 B.1.2.1 dX2_laidInRow_10 rfl (lv_at hl 0 rfl) ?_
    refine lv_iload_n B.1.1 B.1.2.1 dX2_laidInRow_11 rfl (lv_at hl 1 rfl) ?_
    refine lv_iconst (v := (1 : Int32)) B.1.1 B.1.2.1 dX2_laidInRow_12 (by decide) ?_
    refine lv_iadd B.1.1 B.1.2.1 dX2_laidInRow_13 ?_
    obtain ⟨hok, hw⟩ := hw
    refine q_callIV B h (met_X2_doseHeldBack l a0 (x1 + (1 : Int32))) (CB B 1 kC_X2_doseHeldBack kI_RX2 kM_RX2_60 hd_X2_doseHeldBack ⟨Nat.le_of_ble_eq_true rfl, Nat.le_of_ble_eq_true rfl⟩) kO_X2_doseHeldBack kV_X2_doseHeldBack (ci := 2) rfl (by decide) hok.1 hok.2 (rest := []) rfl rfl hl.1 (Nat.le_of_ble_eq_true rfl) dX2_laidInRow_14 ⟨Nat.le_of_ble_eq_true rfl, Nat.le_of_ble_eq_true rfl⟩ hw (fun r2 S2 H locs hw9 h9 => ?_)
    replace hw := hw9
    clear hw9
    replace h := h9
    clear h9
    refine lv_iconst (v := (1 : Int32)) B.1.1 B.1.2.1 dX2_laidInRow_17 (by decide) ?_
    refine lv_iadd B.1.1 B.1.2.1 dX2_laidInRow_18 ?_
    refine lv_iconst (v := (2 : Int32)) B.1.1 B.1.2.1 dX2_laidInRow_19 (by decide) ?_
    refine lv_idiv B.1.1 B.1.2.1 dX2_laidInRow_20 (by decide) ?_
    refine lv_istore_n (i := 2) (lv' := [(2, .int ((r2 + (1 : Int32)) / (2 : Int32))), (0, .ref a0), (1, .int x1)]) B.1.1 B.1.2.1 dX2_laidInRow_21 rfl hl (by decide) rfl (fun ls hl9 => ?_)
    replace hl := hl9
    clear hl9
    refine lv_aload_n B.1.1 B.1.2.1 dX2_laidInRow_22 rfl (lv_at hl 1 rfl) ?_
    refine lv_iload_n B.1.1 B.1.2.1 dX2_laidInRow_23 rfl (lv_at hl 2 rfl) ?_
    refine lv_iconst (v := (1 : Int32)) B.1.1 B.1.2.1 dX2_laidInRow_24 (by decide) ?_
    refine lv_isub B.1.1 B.1.2.1 dX2_laidInRow_25 ?_
    obtain ⟨hok, hw⟩ := hw
    refine q_callIV B h (met_X2_doseHeldBack l a0 (x1 - (1 : Int32))) (CB B 1 kC_X2_doseHeldBack kI_RX2 kM_RX2_60 hd_X2_doseHeldBack ⟨Nat.le_of_ble_eq_true rfl, Nat.le_of_ble_eq_true rfl⟩) kO_X2_doseHeldBack kV_X2_doseHeldBack (ci := 2) rfl (by decide) hok.1 hok.2 (rest := []) rfl rfl hl.1 (Nat.le_of_ble_eq_true rfl) dX2_laidInRow_26 ⟨Nat.le_of_ble_eq_true rfl, Nat.le_of_ble_eq_true rfl⟩ hw (fun r3 S3 H locs hw9 h9 => ?_)
    replace hw := hw9
    clear hw9
    replace h := h9
    clear h9
    refine lv_iconst (v := (2 : Int32)) B.1.1 B.1.2.1 dX2_laidInRow_29 (by decide) ?_
    refine lv_idiv B.1.1 B.1.2.1 dX2_laidInRow_30 (by decide) ?_
    refine lv_istore_n (i := 3) (lv' := [(3, .int (r3 / (2 : Int32))), (2, .int ((r2 + (1 : Int32)) / (2 : Int32))), (0, .ref a0), (1, .int x1)]) B.1.1 B.1.2.1 dX2_laidInRow_31 rfl hl (by decide) rfl (fun ls hl9 => ?_)
    replace hl := hl9
    clear hl9
    refine lv_aload_n B.1.1 B.1.2.1 dX2_laidInRow_32 rfl (lv_at hl 2 rfl) ?_
    refine lv_iload_n B.1.1 B.1.2.1 dX2_laidInRow_33 rfl (lv_at hl 3 rfl) ?_
    obtain ⟨hok, hw⟩ := hw
    refine q_callIV B h (met_X2_doseOf l a0 x1) (CB B 1 kC_X2_doseOf kI_RX2 kM_RX2_56 hd_X2_doseOf ⟨Nat.le_of_ble_eq_true rfl, Nat.le_of_ble_eq_true rfl⟩) kO_X2_doseOf kV_X2_doseOf (ci := 2) rfl (by decide) hok.1 hok.2 (rest := []) rfl rfl hl.1 (Nat.le_of_ble_eq_true rfl) dX2_laidInRow_34 ⟨Nat.le_of_ble_eq_true rfl, Nat.le_of_ble_eq_true rfl⟩ hw (fun r4 S4 H locs hw9 h9 => ?_)
    replace hw := hw9
    clear hw9
    replace h := h9
    clear h9
    refine lv_iload_n B.1.1 B.1.2.1 dX2_laidInRow_37 rfl (lv_at hl 1 rfl) ?_
    refine lv_iadd B.1.1 B.1.2.1 dX2_laidInRow_38 ?_
    refine lv_iload_n B.1.1 B.1.2.1 dX2_laidInRow_39 rfl (lv_at hl 0 rfl) ?_
    refine lv_iadd B.1.1 B.1.2.1 dX2_laidInRow_40 ?_
    refine lv_bipush (v := (15 : Int32)) B.1.1 B.1.2.1 dX2_laidInRow_41 (by decide) ?_
    refine q_min B kM_RX2_46 kS_math_min kI_java_lang_Math kC_math_min hl.1 (Nat.le_of_ble_eq_true rfl) (Nat.le_of_ble_eq_true rfl) (Nat.le_of_ble_eq_true rfl) (Nat.le_of_ble_eq_true rfl) dX2_laidInRow_43 ?_
    refine lv_aload_n B.1.1 B.1.2.1 dX2_laidInRow_46 rfl (lv_at hl 2 rfl) ?_
    obtain ⟨hok, hw⟩ := hw
    refine q_getI B h (ci := 2) (j := 0) (code := 64) rfl inT_2 (by decide) kF_RX2_9 rfl rfl rfl (by decide) dX2_laidInRow_47 hok.1 hok.2 ?_
    refine lv_imul B.1.1 B.1.2.1 dX2_laidInRow_50 ?_
    refine lv_bipush (v := (100 : Int32)) B.1.1 B.1.2.1 dX2_laidInRow_51 (by decide) ?_
    refine lv_idiv B.1.1 B.1.2.1 dX2_laidInRow_53 (by decide) ?_
    exact q_iret B hr hlk h hw dX2_laidInRow_54 (Nat.le_of_ble_eq_true rfl) (Nat.le_of_ble_eq_true rfl)
  · replace hw := hw.2 hc
    refine lv_iconst (v := (0 : Int32)) B.1.1 B.1.2.1 dX2_laidInRow_8 (by decide) ?_
    exact q_iret B hr hlk h hw dX2_laidInRow_9 (Nat.le_of_ble_eq_true rfl) (Nat.le_of_ble_eq_true rfl)
set_option maxHeartbeats 4000000 in
set_option maxRecDepth 100000 in
theorem met_X2_start (l : Launch) (a0 : Nat) (p1 : Option Nat) (p2 : Option Nat) (x3 : Int32) : MV l yX2_start cX2_start 4 none 0 0 0 0 [.ref a0, va_rf p1, va_rf p2, .int x3] (wX2_start a0 p1 p2 x3) := by
  refine MV.of (by decide) (by simp [lg_sl, rf_cat, cat_i, cat_r, cat_n, cat_j, cat_f, cat_d]) ?_
  intro p e s m below meth c D cs lo S Q ls B hr hlk hin
  intro h hl hw
  replace hl : lv_has ls 4 [(0, .ref a0), (1, va_rf p1), (2, va_rf p2), (3, .int x3)] := by simpa [lv_args, rf_cat, cat_i, cat_r, cat_n, cat_j, cat_f, cat_d] using hl
  refine q_aload_n B.1.1 B.1.2.1 dX2_start_0 rfl (lv_at hl 2 rfl) ?_
  refine lv_iconst (v := (-1 : Int32)) B.1.1 B.1.2.1 dX2_start_1 (by decide) ?_
  obtain ⟨q1, hn, hw⟩ := hw
  subst hn
  replace hl : lv_has ls 4 [(0, .ref a0), (1, va_rf p1), (2, .ref q1), (3, .int x3)] := hl
  obtain ⟨hok, hw⟩ := hw
  refine q_putIN B h (ci := 3) (j := 6) (code := 102) (v := (-1 : Int32)) rfl inT_3 tyX3 tyX3_ok nmX3 (by decide) kF_RX2_63 rfl rfl rfl rfl (by decide) (by first | rfl | decide) (by first | rfl | decide) dX2_start_2 hok.1 hok.2 (fun H locs h9 => ?_)
  obtain ⟨S1, hS1, hh⟩ : ∃ z, z = sI S 102 q1 (-1 : Int32) ∧ Hx D cs lo s z H _ := ⟨_, rfl, h9⟩
  clear h9
  replace h := hh
  clear hh
  replace hw := hw S1 hS1
  refine lv_aload_n B.1.1 B.1.2.1 dX2_start_5 rfl (lv_at hl 2 rfl) ?_
  refine lv_iconst (v := (1 : Int32)) B.1.1 B.1.2.1 dX2_start_6 (by decide) ?_
  obtain ⟨hok, hw⟩ := hw
  refine q_putIN B h (ci := 3) (j := 7) (code := 103) (v := (1 : Int32)) rfl inT_3 tyX3 tyX3_ok nmX3 (by decide) kF_RX2_68 rfl rfl rfl rfl (by decide) (by first | rfl | decide) (by first | rfl | decide) dX2_start_7 hok.1 hok.2 (fun H locs h9 => ?_)
  obtain ⟨S2, hS2, hh⟩ : ∃ z, z = sI S1 103 q1 (1 : Int32) ∧ Hx D cs lo s z H _ := ⟨_, rfl, h9⟩
  clear h9
  replace h := hh
  clear hh
  replace hw := hw S2 hS2
  refine lv_aload_n B.1.1 B.1.2.1 dX2_start_10 rfl (lv_at hl 0 rfl) ?_
  refine lv_dup B.1.1 B.1.2.1 dX2_start_11 rfl ?_
  obtain ⟨hok, hw⟩ := hw
  refine q_getI B h (ci := 2) (j := 5) (code := 69) rfl inT_2 (by decide) kF_RX2_29 rfl rfl rfl (by decide) dX2_start_12 hok.1 hok.2 ?_
  refine lv_iconst (v := (1 : Int32)) B.1.1 B.1.2.1 dX2_start_15 (by decide) ?_
  refine lv_isub B.1.1 B.1.2.1 dX2_start_16 ?_
  obtain ⟨hok, hw⟩ := hw
  refine q_putI B h (ci := 2) (j := 5) (code := 69) (v := ((gI S2 69 a0) - (1 : Int32))) rfl inT_2 tyX2 tyX2_ok nmX2 (by decide) kF_RX2_29 rfl rfl rfl rfl (by decide) (by first | rfl | decide) (by first | rfl | decide) dX2_start_17 hok.1 hok.2 (fun H locs h9 => ?_)
  obtain ⟨S3, hS3, hh⟩ : ∃ z, z = sI S2 69 a0 ((gI S2 69 a0) - (1 : Int32)) ∧ Hx D cs lo s z H _ := ⟨_, rfl, h9⟩
  clear h9
  replace h := hh
  clear hh
  replace hw := hw S3 hS3
  refine lv_aload_n B.1.1 B.1.2.1 dX2_start_20 rfl (lv_at hl 0 rfl) ?_
  refine q_aload_n B.1.1 B.1.2.1 dX2_start_21 rfl (lv_at hl 1 rfl) ?_
  obtain ⟨hok, hw⟩ := hw
  refine q_putR B h (ci := 2) (j := 6) (code := 70) (v := p1) rfl inT_2 tyX2 tyX2_ok nmX2 (by decide) kF_RX2_32 rfl rfl rfl rfl (by decide) (by cases p1 <;> rfl) (by cases p1 <;> rfl) dX2_start_22 hok.1 hok.2 (fun H locs h9 => ?_)
  obtain ⟨S4, hS4, hh⟩ : ∃ z, z = sR S3 70 a0 p1 ∧ Hx D cs lo s z H _ := ⟨_, rfl, h9⟩
  clear h9
  replace h := hh
  clear hh
  replace hw := hw S4 hS4
  refine lv_aload_n B.1.1 B.1.2.1 dX2_start_25 rfl (lv_at hl 0 rfl) ?_
  refine lv_aload_n B.1.1 B.1.2.1 dX2_start_26 rfl (lv_at hl 2 rfl) ?_
  obtain ⟨hok, hw⟩ := hw
  refine q_putR B h (ci := 2) (j := 7) (code := 71) (v := (some q1)) rfl inT_2 tyX2 tyX2_ok nmX2 (by decide) kF_RX2_36 rfl rfl rfl rfl (by decide) rfl rfl dX2_start_27 hok.1 hok.2 (fun H locs h9 => ?_)
  obtain ⟨S5, hS5, hh⟩ : ∃ z, z = sR S4 71 a0 (some q1) ∧ Hx D cs lo s z H _ := ⟨_, rfl, h9⟩
  clear h9
  replace h := hh
  clear hh
  replace hw := hw S5 hS5
  refine lv_aload_n B.1.1 B.1.2.1 dX2_start_30 rfl (lv_at hl 0 rfl) ?_
  refine lv_iload_n B.1.1 B.1.2.1 dX2_start_31 rfl (lv_at hl 3 rfl) ?_
  obtain ⟨hok, hw⟩ := hw
  refine q_putI B h (ci := 2) (j := 8) (code := 72) (v := x3) rfl inT_2 tyX2 tyX2_ok nmX2 (by decide) kF_RX2_40 rfl rfl rfl rfl (by decide) (by first | rfl | decide) (by first | rfl | decide) dX2_start_32 hok.1 hok.2 (fun H locs h9 => ?_)
  obtain ⟨S6, hS6, hh⟩ : ∃ z, z = sI S5 72 a0 x3 ∧ Hx D cs lo s z H _ := ⟨_, rfl, h9⟩
  clear h9
  replace h := hh
  clear hh
  replace hw := hw S6 hS6
  refine lv_aload_n B.1.1 B.1.2.1 dX2_start_35 rfl (lv_at hl 0 rfl) ?_
  refine lv_aload_n B.1.1 B.1.2.1 dX2_start_36 rfl (lv_at hl 2 rfl) ?_
  obtain ⟨hok, hw⟩ := hw
  refine q_getIN B h (ci := 3) (j := 2) (code := 98) rfl inT_3 (by decide) kF_RX2_72 rfl rfl rfl (by decide) dX2_start_37 hok.1 hok.2 ?_
  refine lv_aload_n B.1.1 B.1.2.1 dX2_start_40 rfl (lv_at hl 2 rfl) ?_
  obtain ⟨hok, hw⟩ := hw
  refine q_getIN B h (ci := 3) (j := 1) (code := 97) rfl inT_3 (by decide) kF_RX2_75 rfl rfl rfl (by decide) dX2_start_41 hok.1 hok.2 ?_
  refine lv_isub B.1.1 B.1.2.1 dX2_start_44 ?_
  obtain ⟨hok, hw⟩ := hw
  refine q_putI B h (ci := 2) (j := 9) (code := 73) (v := ((gI S6 98 q1) - (gI S6 97 q1))) rfl inT_2 tyX2 tyX2_ok nmX2 (by decide) kF_RX2_43 rfl rfl rfl rfl (by decide) (by first | rfl | decide) (by first | rfl | decide) dX2_start_45 hok.1 hok.2 (fun H locs h9 => ?_)
  obtain ⟨S7, hS7, hh⟩ : ∃ z, z = sI S6 73 a0 ((gI S6 98 q1) - (gI S6 97 q1)) ∧ Hx D cs lo s z H _ := ⟨_, rfl, h9⟩
  clear h9
  replace h := hh
  clear hh
  replace hw := hw S7 hS7
  exact q_vret B hr hlk h hw dX2_start_48 (Nat.le_of_ble_eq_true rfl) (Nat.le_of_ble_eq_true rfl)
