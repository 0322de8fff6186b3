theorem dX4_fill_0 : decode cX4_fill 0 = .ok (.aload_n 0, 1) := by decide +kernel
theorem dX4_fill_1 : decode cX4_fill 1 = .ok (.iload_n 1, 1) := by decide +kernel
theorem dX4_fill_2 : decode cX4_fill 2 = .ok (.invokevirtual 56, 3) := by decide +kernel
theorem dX4_fill_5 : decode cX4_fill 5 = .ok (.astore 6, 2) := by decide +kernel
theorem dX4_fill_7 : decode cX4_fill 7 = .ok (.aload 6, 2) := by decide +kernel
theorem dX4_fill_9 : decode cX4_fill 9 = .ok (.ifnull 19, 3) := by decide +kernel
theorem dX4_fill_12 : decode cX4_fill 12 = .ok (.iload_n 2, 1) := by decide +kernel
theorem dX4_fill_13 : decode cX4_fill 13 = .ok (.invokestatic 60, 3) := by decide +kernel
theorem dX4_fill_16 : decode cX4_fill 16 = .ok (.ifCond .eq 12, 3) := by decide +kernel
theorem dX4_fill_19 : decode cX4_fill 19 = .ok (.aload 6, 2) := by decide +kernel
theorem dX4_fill_21 : decode cX4_fill 21 = .ok (.iload_n 3, 1) := by decide +kernel
theorem dX4_fill_22 : decode cX4_fill 22 = .ok (.invokevirtual 64, 3) := by decide +kernel
theorem dX4_fill_25 : decode cX4_fill 25 = .ok (.ifCond .ne 13, 3) := by decide +kernel
theorem dX4_fill_28 : decode cX4_fill 28 = .ok (.new 67, 3) := by decide +kernel
theorem dX4_fill_31 : decode cX4_fill 31 = .ok (.dup, 1) := by decide +kernel
theorem dX4_fill_32 : decode cX4_fill 32 = .ok (.ldc 69, 2) := by decide +kernel
theorem dX4_fill_34 : decode cX4_fill 34 = .ok (.invokespecial 71, 3) := by decide +kernel
theorem dX4_fill_37 : decode cX4_fill 37 = .ok (.athrow, 1) := by decide +kernel
theorem dX4_fill_38 : decode cX4_fill 38 = .ok (.iload 4, 2) := by decide +kernel
theorem dX4_fill_40 : decode cX4_fill 40 = .ok (.iload_n 3, 1) := by decide +kernel
theorem dX4_fill_41 : decode cX4_fill 41 = .ok (.iconst 1, 1) := by decide +kernel
theorem dX4_fill_42 : decode cX4_fill 42 = .ok (.iadd, 1) := by decide +kernel
theorem dX4_fill_43 : decode cX4_fill 43 = .ok (.aload 6, 2) := by decide +kernel
theorem dX4_fill_45 : decode cX4_fill 45 = .ok (.getfield 72, 3) := by decide +kernel
theorem dX4_fill_48 : decode cX4_fill 48 = .ok (.invokestatic 29, 3) := by decide +kernel
theorem dX4_fill_51 : decode cX4_fill 51 = .ok (.ifCond .ne 13, 3) := by decide +kernel
theorem dX4_fill_54 : decode cX4_fill 54 = .ok (.new 33, 3) := by decide +kernel
theorem dX4_fill_57 : decode cX4_fill 57 = .ok (.dup, 1) := by decide +kernel
theorem dX4_fill_58 : decode cX4_fill 58 = .ok (.ldc 74, 2) := by decide +kernel
theorem dX4_fill_60 : decode cX4_fill 60 = .ok (.invokespecial 37, 3) := by decide +kernel
theorem dX4_fill_63 : decode cX4_fill 63 = .ok (.athrow, 1) := by decide +kernel
theorem dX4_fill_64 : decode cX4_fill 64 = .ok (.iload 5, 2) := by decide +kernel
theorem dX4_fill_66 : decode cX4_fill 66 = .ok (.iconst 0, 1) := by decide +kernel
theorem dX4_fill_67 : decode cX4_fill 67 = .ok (.bipush 15, 2) := by decide +kernel
theorem dX4_fill_69 : decode cX4_fill 69 = .ok (.invokestatic 29, 3) := by decide +kernel
theorem dX4_fill_72 : decode cX4_fill 72 = .ok (.ifCond .ne 13, 3) := by decide +kernel
theorem dX4_fill_75 : decode cX4_fill 75 = .ok (.new 33, 3) := by decide +kernel
theorem dX4_fill_78 : decode cX4_fill 78 = .ok (.dup, 1) := by decide +kernel
theorem dX4_fill_79 : decode cX4_fill 79 = .ok (.ldc 76, 2) := by decide +kernel
theorem dX4_fill_81 : decode cX4_fill 81 = .ok (.invokespecial 37, 3) := by decide +kernel
theorem dX4_fill_84 : decode cX4_fill 84 = .ok (.athrow, 1) := by decide +kernel
theorem dX4_fill_85 : decode cX4_fill 85 = .ok (.aload 6, 2) := by decide +kernel
theorem dX4_fill_87 : decode cX4_fill 87 = .ok (.iload_n 2, 1) := by decide +kernel
theorem dX4_fill_88 : decode cX4_fill 88 = .ok (.iload_n 3, 1) := by decide +kernel
theorem dX4_fill_89 : decode cX4_fill 89 = .ok (.iload 4, 2) := by decide +kernel
theorem dX4_fill_91 : decode cX4_fill 91 = .ok (.iload 5, 2) := by decide +kernel
theorem dX4_fill_93 : decode cX4_fill 93 = .ok (.invokevirtual 78, 3) := by decide +kernel
theorem dX4_fill_96 : decode cX4_fill 96 = .ok (.ireturn, 1) := by decide +kernel
theorem dX4_strips_0 : decode cX4_strips 0 = .ok (.aload_n 0, 1) := by decide +kernel
theorem dX4_strips_1 : decode cX4_strips 1 = .ok (.iload_n 1, 1) := by decide +kernel
theorem dX4_strips_2 : decode cX4_strips 2 = .ok (.invokevirtual 56, 3) := by decide +kernel
theorem dX4_strips_5 : decode cX4_strips 5 = .ok (.astore_n 2, 1) := by decide +kernel
theorem dX4_strips_6 : decode cX4_strips 6 = .ok (.aload_n 2, 1) := by decide +kernel
theorem dX4_strips_7 : decode cX4_strips 7 = .ok (.ifnonnull 13, 3) := by decide +kernel
theorem dX4_strips_10 : decode cX4_strips 10 = .ok (.new 67, 3) := by decide +kernel
theorem dX4_strips_13 : decode cX4_strips 13 = .ok (.dup, 1) := by decide +kernel
theorem dX4_strips_14 : decode cX4_strips 14 = .ok (.ldc 82, 2) := by decide +kernel
theorem dX4_strips_16 : decode cX4_strips 16 = .ok (.invokespecial 71, 3) := by decide +kernel
theorem dX4_strips_19 : decode cX4_strips 19 = .ok (.athrow, 1) := by decide +kernel
theorem dX4_strips_20 : decode cX4_strips 20 = .ok (.aload_n 2, 1) := by decide +kernel
theorem dX4_strips_21 : decode cX4_strips 21 = .ok (.getfield 84, 3) := by decide +kernel
theorem dX4_strips_24 : decode cX4_strips 24 = .ok (.ireturn, 1) := by decide +kernel
theorem dX4_toLay_0 : decode cX4_toLay 0 = .ok (.aload_n 0, 1) := by decide +kernel
theorem dX4_toLay_1 : decode cX4_toLay 1 = .ok (.iload_n 1, 1) := by decide +kernel
theorem dX4_toLay_2 : decode cX4_toLay 2 = .ok (.invokevirtual 56, 3) := by decide +kernel
theorem dX4_toLay_5 : decode cX4_toLay 5 = .ok (.astore 5, 2) := by decide +kernel
theorem dX4_toLay_7 : decode cX4_toLay 7 = .ok (.aload 5, 2) := by decide +kernel
theorem dX4_toLay_9 : decode cX4_toLay 9 = .ok (.iload_n 2, 1) := by decide +kernel
theorem dX4_toLay_10 : decode cX4_toLay 10 = .ok (.invokestatic 87, 3) := by decide +kernel
theorem dX4_toLay_13 : decode cX4_toLay 13 = .ok (.astore 6, 2) := by decide +kernel
theorem dX4_toLay_15 : decode cX4_toLay 15 = .ok (.aload 5, 2) := by decide +kernel
theorem dX4_toLay_17 : decode cX4_toLay 17 = .ok (.ifnull 25, 3) := by decide +kernel
theorem dX4_toLay_20 : decode cX4_toLay 20 = .ok (.aload 6, 2) := by decide +kernel
theorem dX4_toLay_22 : decode cX4_toLay 22 = .ok (.ifnull 20, 3) := by decide +kernel
theorem dX4_toLay_25 : decode cX4_toLay 25 = .ok (.iload_n 3, 1) := by decide +kernel
theorem dX4_toLay_26 : decode cX4_toLay 26 = .ok (.invokestatic 60, 3) := by decide +kernel
theorem dX4_toLay_29 : decode cX4_toLay 29 = .ok (.ifCond .eq 13, 3) := by decide +kernel
theorem dX4_toLay_32 : decode cX4_toLay 32 = .ok (.aload 5, 2) := by decide +kernel
theorem dX4_toLay_34 : decode cX4_toLay 34 = .ok (.iload 4, 2) := by decide +kernel
theorem dX4_toLay_36 : decode cX4_toLay 36 = .ok (.invokevirtual 64, 3) := by decide +kernel
theorem dX4_toLay_39 : decode cX4_toLay 39 = .ok (.ifCond .ne 13, 3) := by decide +kernel
theorem dX4_toLay_42 : decode cX4_toLay 42 = .ok (.new 67, 3) := by decide +kernel
theorem dX4_toLay_45 : decode cX4_toLay 45 = .ok (.dup, 1) := by decide +kernel
theorem dX4_toLay_46 : decode cX4_toLay 46 = .ok (.ldc 91, 2) := by decide +kernel
theorem dX4_toLay_48 : decode cX4_toLay 48 = .ok (.invokespecial 71, 3) := by decide +kernel
theorem dX4_toLay_51 : decode cX4_toLay 51 = .ok (.athrow, 1) := by decide +kernel
theorem dX4_toLay_52 : decode cX4_toLay 52 = .ok (.aload 5, 2) := by decide +kernel
theorem dX4_toLay_54 : decode cX4_toLay 54 = .ok (.aload 6, 2) := by decide +kernel
theorem dX4_toLay_56 : decode cX4_toLay 56 = .ok (.iload_n 3, 1) := by decide +kernel
theorem dX4_toLay_57 : decode cX4_toLay 57 = .ok (.iload 4, 2) := by decide +kernel
theorem dX4_toLay_59 : decode cX4_toLay 59 = .ok (.invokevirtual 93, 3) := by decide +kernel
theorem dX4_toLay_62 : decode cX4_toLay 62 = .ok (.ireturn, 1) := by decide +kernel
theorem dX4_setGain_0 : decode cX4_setGain 0 = .ok (.aload_n 0, 1) := by decide +kernel
theorem dX4_setGain_1 : decode cX4_setGain 1 = .ok (.iload_n 1, 1) := by decide +kernel
theorem dX4_setGain_2 : decode cX4_setGain 2 = .ok (.invokevirtual 97, 3) := by decide +kernel
theorem dX4_setGain_5 : decode cX4_setGain 5 = .ok (.astore_n 3, 1) := by decide +kernel
theorem dX4_setGain_6 : decode cX4_setGain 6 = .ok (.aload_n 3, 1) := by decide +kernel
theorem dX4_setGain_7 : decode cX4_setGain 7 = .ok (.ifnonnull 13, 3) := by decide +kernel
theorem dX4_setGain_10 : decode cX4_setGain 10 = .ok (.new 67, 3) := by decide +kernel
theorem dX4_setGain_13 : decode cX4_setGain 13 = .ok (.dup, 1) := by decide +kernel
theorem dX4_setGain_14 : decode cX4_setGain 14 = .ok (.ldc 101, 2) := by decide +kernel
theorem dX4_setGain_16 : decode cX4_setGain 16 = .ok (.invokespecial 71, 3) := by decide +kernel
theorem dX4_setGain_19 : decode cX4_setGain 19 = .ok (.athrow, 1) := by decide +kernel
theorem dX4_setGain_20 : decode cX4_setGain 20 = .ok (.iload_n 2, 1) := by decide +kernel
theorem dX4_setGain_21 : decode cX4_setGain 21 = .ok (.bipush 50, 2) := by decide +kernel
theorem dX4_setGain_23 : decode cX4_setGain 23 = .ok (.sipush 200, 3) := by decide +kernel
theorem dX4_setGain_26 : decode cX4_setGain 26 = .ok (.invokestatic 29, 3) := by decide +kernel
theorem dX4_setGain_29 : decode cX4_setGain 29 = .ok (.ifCond .ne 13, 3) := by decide +kernel
theorem dX4_setGain_32 : decode cX4_setGain 32 = .ok (.new 33, 3) := by decide +kernel
theorem dX4_setGain_35 : decode cX4_setGain 35 = .ok (.dup, 1) := by decide +kernel
theorem dX4_setGain_36 : decode cX4_setGain 36 = .ok (.ldc 103, 2) := by decide +kernel
theorem dX4_setGain_38 : decode cX4_setGain 38 = .ok (.invokespecial 37, 3) := by decide +kernel
theorem dX4_setGain_41 : decode cX4_setGain 41 = .ok (.athrow, 1) := by decide +kernel
theorem dX4_setGain_42 : decode cX4_setGain 42 = .ok (.aload_n 3, 1) := by decide +kernel
theorem dX4_setGain_43 : decode cX4_setGain 43 = .ok (.getfield 105, 3) := by decide +kernel
theorem dX4_setGain_46 : decode cX4_setGain 46 = .ok (.istore 4, 2) := by decide +kernel
theorem dX4_setGain_48 : decode cX4_setGain 48 = .ok (.aload_n 3, 1) := by decide +kernel
theorem dX4_setGain_49 : decode cX4_setGain 49 = .ok (.iload_n 2, 1) := by decide +kernel
theorem dX4_setGain_50 : decode cX4_setGain 50 = .ok (.putfield 105, 3) := by decide +kernel
theorem dX4_setGain_53 : decode cX4_setGain 53 = .ok (.iload 4, 2) := by decide +kernel
theorem dX4_setGain_55 : decode cX4_setGain 55 = .ok (.ireturn, 1) := by decide +kernel
theorem dX4_match_0 : decode cX4_match 0 = .ok (.aload_n 0, 1) := by decide +kernel
theorem dX4_match_1 : decode cX4_match 1 = .ok (.iload_n 1, 1) := by decide +kernel
theorem dX4_match_2 : decode cX4_match 2 = .ok (.invokevirtual 97, 3) := by decide +kernel
theorem dX4_match_5 : decode cX4_match 5 = .ok (.astore_n 2, 1) := by decide +kernel
theorem dX4_match_6 : decode cX4_match 6 = .ok (.aload_n 2, 1) := by decide +kernel
theorem dX4_match_7 : decode cX4_match 7 = .ok (.ifnonnull 13, 3) := by decide +kernel
theorem dX4_match_10 : decode cX4_match 10 = .ok (.new 67, 3) := by decide +kernel
theorem dX4_match_13 : decode cX4_match 13 = .ok (.dup, 1) := by decide +kernel
theorem dX4_match_14 : decode cX4_match 14 = .ok (.ldc 101, 2) := by decide +kernel
theorem dX4_match_16 : decode cX4_match 16 = .ok (.invokespecial 71, 3) := by decide +kernel
theorem dX4_match_19 : decode cX4_match 19 = .ok (.athrow, 1) := by decide +kernel
theorem dX4_match_20 : decode cX4_match 20 = .ok (.aload_n 2, 1) := by decide +kernel
theorem dX4_match_21 : decode cX4_match 21 = .ok (.invokevirtual 107, 3) := by decide +kernel
theorem dX4_match_24 : decode cX4_match 24 = .ok (.ireturn, 1) := by decide +kernel
theorem dX4_block_0 : decode cX4_block 0 = .ok (.aload_n 0, 1) := by decide +kernel
theorem dX4_block_1 : decode cX4_block 1 = .ok (.iload_n 1, 1) := by decide +kernel
theorem dX4_block_2 : decode cX4_block 2 = .ok (.invokevirtual 97, 3) := by decide +kernel
theorem dX4_block_5 : decode cX4_block 5 = .ok (.astore_n 3, 1) := by decide +kernel
theorem dX4_block_6 : decode cX4_block 6 = .ok (.aload_n 3, 1) := by decide +kernel
theorem dX4_block_7 : decode cX4_block 7 = .ok (.ifnull 10, 3) := by decide +kernel
theorem dX4_block_10 : decode cX4_block 10 = .ok (.iload_n 2, 1) := by decide +kernel
theorem dX4_block_11 : decode cX4_block 11 = .ok (.invokestatic 60, 3) := by decide +kernel
theorem dX4_block_14 : decode cX4_block 14 = .ok (.ifCond .ne 13, 3) := by decide +kernel
theorem dX4_block_17 : decode cX4_block 17 = .ok (.new 67, 3) := by decide +kernel
theorem dX4_block_20 : decode cX4_block 20 = .ok (.dup, 1) := by decide +kernel
theorem dX4_block_21 : decode cX4_block 21 = .ok (.ldc 111, 2) := by decide +kernel
theorem dX4_block_23 : decode cX4_block 23 = .ok (.invokespecial 71, 3) := by decide +kernel
theorem dX4_block_26 : decode cX4_block 26 = .ok (.athrow, 1) := by decide +kernel
theorem dX4_block_27 : decode cX4_block 27 = .ok (.aload_n 3, 1) := by decide +kernel
theorem dX4_block_28 : decode cX4_block 28 = .ok (.iload_n 2, 1) := by decide +kernel
theorem dX4_block_29 : decode cX4_block 29 = .ok (.invokevirtual 113, 3) := by decide +kernel
theorem dX4_block_32 : decode cX4_block 32 = .ok (.aload_n 3, 1) := by decide +kernel
theorem dX4_block_33 : decode cX4_block 33 = .ok (.invokevirtual 117, 3) := by decide +kernel
theorem dX4_block_36 : decode cX4_block 36 = .ok (.ireturn, 1) := by decide +kernel
theorem dX4_clean_0 : decode cX4_clean 0 = .ok (.aload_n 0, 1) := by decide +kernel
theorem dX4_clean_1 : decode cX4_clean 1 = .ok (.iload_n 1, 1) := by decide +kernel
theorem dX4_clean_2 : decode cX4_clean 2 = .ok (.invokevirtual 97, 3) := by decide +kernel
theorem dX4_clean_5 : decode cX4_clean 5 = .ok (.astore_n 2, 1) := by decide +kernel
theorem dX4_clean_6 : decode cX4_clean 6 = .ok (.aload_n 2, 1) := by decide +kernel
theorem dX4_clean_7 : decode cX4_clean 7 = .ok (.ifnonnull 13, 3) := by decide +kernel
theorem dX4_clean_10 : decode cX4_clean 10 = .ok (.new 67, 3) := by decide +kernel
theorem dX4_clean_13 : decode cX4_clean 13 = .ok (.dup, 1) := by decide +kernel
theorem dX4_clean_14 : decode cX4_clean 14 = .ok (.ldc 101, 2) := by decide +kernel
theorem dX4_clean_16 : decode cX4_clean 16 = .ok (.invokespecial 71, 3) := by decide +kernel
theorem dX4_clean_19 : decode cX4_clean 19 = .ok (.athrow, 1) := by decide +kernel
theorem dX4_clean_20 : decode cX4_clean 20 = .ok (.aload_n 2, 1) := by decide +kernel
theorem dX4_clean_21 : decode cX4_clean 21 = .ok (.invokevirtual 120, 3) := by decide +kernel
theorem dX4_clean_24 : decode cX4_clean 24 = .ok (.ifCond .eq 13, 3) := by decide +kernel
theorem dX4_clean_27 : decode cX4_clean 27 = .ok (.new 48, 3) := by decide +kernel
theorem dX4_clean_30 : decode cX4_clean 30 = .ok (.dup, 1) := by decide +kernel
theorem dX4_clean_31 : decode cX4_clean 31 = .ok (.ldc 124, 2) := by decide +kernel
theorem dX4_clean_33 : decode cX4_clean 33 = .ok (.invokespecial 52, 3) := by decide +kernel
theorem dX4_clean_36 : decode cX4_clean 36 = .ok (.athrow, 1) := by decide +kernel
theorem dX4_clean_37 : decode cX4_clean 37 = .ok (.aload_n 2, 1) := by decide +kernel
theorem dX4_clean_38 : decode cX4_clean 38 = .ok (.invokevirtual 117, 3) := by decide +kernel
theorem dX4_clean_41 : decode cX4_clean 41 = .ok (.istore_n 3, 1) := by decide +kernel
theorem dX4_clean_42 : decode cX4_clean 42 = .ok (.aload_n 2, 1) := by decide +kernel
theorem dX4_clean_43 : decode cX4_clean 43 = .ok (.invokevirtual 126, 3) := by decide +kernel
theorem dX4_clean_46 : decode cX4_clean 46 = .ok (.aload_n 2, 1) := by decide +kernel
theorem dX4_clean_47 : decode cX4_clean 47 = .ok (.dup, 1) := by decide +kernel
theorem dX4_clean_48 : decode cX4_clean 48 = .ok (.getfield 129, 3) := by decide +kernel
theorem dX4_clean_51 : decode cX4_clean 51 = .ok (.bipush 20, 2) := by decide +kernel
theorem dX4_clean_53 : decode cX4_clean 53 = .ok (.iadd, 1) := by decide +kernel
theorem dX4_clean_54 : decode cX4_clean 54 = .ok (.putfield 129, 3) := by decide +kernel
theorem dX4_clean_57 : decode cX4_clean 57 = .ok (.iload_n 3, 1) := by decide +kernel
theorem dX4_clean_58 : decode cX4_clean 58 = .ok (.ireturn, 1) := by decide +kernel
theorem dX4_patch_0 : decode cX4_patch 0 = .ok (.aload_n 0, 1) := by decide +kernel
theorem dX4_patch_1 : decode cX4_patch 1 = .ok (.iload_n 1, 1) := by decide +kernel
theorem dX4_patch_2 : decode cX4_patch 2 = .ok (.invokevirtual 97, 3) := by decide +kernel
theorem dX4_patch_5 : decode cX4_patch 5 = .ok (.astore 4, 2) := by decide +kernel
theorem dX4_patch_7 : decode cX4_patch 7 = .ok (.aload 4, 2) := by decide +kernel
theorem dX4_patch_9 : decode cX4_patch 9 = .ok (.ifnull 10, 3) := by decide +kernel
theorem dX4_patch_12 : decode cX4_patch 12 = .ok (.iload_n 2, 1) := by decide +kernel
theorem dX4_patch_13 : decode cX4_patch 13 = .ok (.invokestatic 60, 3) := by decide +kernel
theorem dX4_patch_16 : decode cX4_patch 16 = .ok (.ifCond .ne 13, 3) := by decide +kernel
theorem dX4_patch_19 : decode cX4_patch 19 = .ok (.new 67, 3) := by decide +kernel
theorem dX4_patch_22 : decode cX4_patch 22 = .ok (.dup, 1) := by decide +kernel
theorem dX4_patch_23 : decode cX4_patch 23 = .ok (.ldc 132, 2) := by decide +kernel
theorem dX4_patch_25 : decode cX4_patch 25 = .ok (.invokespecial 71, 3) := by decide +kernel
theorem dX4_patch_28 : decode cX4_patch 28 = .ok (.athrow, 1) := by decide +kernel
theorem dX4_patch_29 : decode cX4_patch 29 = .ok (.iload_n 3, 1) := by decide +kernel
theorem dX4_patch_30 : decode cX4_patch 30 = .ok (.iconst 0, 1) := by decide +kernel
theorem dX4_patch_31 : decode cX4_patch 31 = .ok (.bipush 15, 2) := by decide +kernel
theorem dX4_patch_33 : decode cX4_patch 33 = .ok (.invokestatic 29, 3) := by decide +kernel
theorem dX4_patch_36 : decode cX4_patch 36 = .ok (.ifCond .ne 13, 3) := by decide +kernel
theorem dX4_patch_39 : decode cX4_patch 39 = .ok (.new 33, 3) := by decide +kernel
theorem dX4_patch_42 : decode cX4_patch 42 = .ok (.dup, 1) := by decide +kernel
theorem dX4_patch_43 : decode cX4_patch 43 = .ok (.ldc 76, 2) := by decide +kernel
theorem dX4_patch_45 : decode cX4_patch 45 = .ok (.invokespecial 37, 3) := by decide +kernel
theorem dX4_patch_48 : decode cX4_patch 48 = .ok (.athrow, 1) := by decide +kernel
theorem dX4_patch_49 : decode cX4_patch 49 = .ok (.iconst 0, 1) := by decide +kernel
theorem dX4_patch_50 : decode cX4_patch 50 = .ok (.istore 5, 2) := by decide +kernel
theorem dX4_patch_52 : decode cX4_patch 52 = .ok (.iload 5, 2) := by decide +kernel
theorem dX4_patch_54 : decode cX4_patch 54 = .ok (.bipush 8, 2) := by decide +kernel
theorem dX4_patch_56 : decode cX4_patch 56 = .ok (.if_icmp .ge 17, 3) := by decide +kernel
theorem dX4_patch_59 : decode cX4_patch 59 = .ok (.aload 4, 2) := by decide +kernel
theorem dX4_patch_61 : decode cX4_patch 61 = .ok (.iload 5, 2) := by decide +kernel
theorem dX4_patch_63 : decode cX4_patch 63 = .ok (.iload_n 3, 1) := by decide +kernel
theorem dX4_patch_64 : decode cX4_patch 64 = .ok (.invokevirtual 134, 3) := by decide +kernel
theorem dX4_patch_67 : decode cX4_patch 67 = .ok (.iinc 5 1, 3) := by decide +kernel
theorem dX4_patch_70 : decode cX4_patch 70 = .ok (.goto (-18), 3) := by decide +kernel
theorem dX4_patch_73 : decode cX4_patch 73 = .ok (.aload 4, 2) := by decide +kernel
theorem dX4_patch_75 : decode cX4_patch 75 = .ok (.iload_n 2, 1) := by decide +kernel
theorem dX4_patch_76 : decode cX4_patch 76 = .ok (.invokevirtual 138, 3) := by decide +kernel
theorem dX4_patch_79 : decode cX4_patch 79 = .ok (.ireturn, 1) := by decide +kernel
theorem dX4_put_0 : decode cX4_put 0 = .ok (.aload_n 0, 1) := by decide +kernel
theorem dX4_put_1 : decode cX4_put 1 = .ok (.iload_n 1, 1) := by decide +kernel
theorem dX4_put_2 : decode cX4_put 2 = .ok (.invokevirtual 56, 3) := by decide +kernel
theorem dX4_put_5 : decode cX4_put 5 = .ok (.iload_n 2, 1) := by decide +kernel
theorem dX4_put_6 : decode cX4_put 6 = .ok (.invokestatic 87, 3) := by decide +kernel
theorem dX4_put_9 : decode cX4_put 9 = .ok (.astore 4, 2) := by decide +kernel
theorem dX4_put_11 : decode cX4_put 11 = .ok (.aload_n 0, 1) := by decide +kernel
theorem dX4_put_12 : decode cX4_put 12 = .ok (.iload_n 3, 1) := by decide +kernel
theorem dX4_put_13 : decode cX4_put 13 = .ok (.invokevirtual 97, 3) := by decide +kernel
theorem dX4_put_16 : decode cX4_put 16 = .ok (.astore 5, 2) := by decide +kernel
theorem dX4_put_18 : decode cX4_put 18 = .ok (.aload 4, 2) := by decide +kernel
theorem dX4_put_20 : decode cX4_put 20 = .ok (.ifnull 8, 3) := by decide +kernel
theorem dX4_put_23 : decode cX4_put 23 = .ok (.aload 5, 2) := by decide +kernel
theorem dX4_put_25 : decode cX4_put 25 = .ok (.ifnonnull 13, 3) := by decide +kernel
theorem dX4_put_28 : decode cX4_put 28 = .ok (.new 67, 3) := by decide +kernel
theorem dX4_put_31 : decode cX4_put 31 = .ok (.dup, 1) := by decide +kernel
theorem dX4_put_32 : decode cX4_put 32 = .ok (.ldc 142, 2) := by decide +kernel
theorem dX4_put_34 : decode cX4_put 34 = .ok (.invokespecial 71, 3) := by decide +kernel
theorem dX4_put_37 : decode cX4_put 37 = .ok (.athrow, 1) := by decide +kernel
theorem dX4_put_38 : decode cX4_put 38 = .ok (.aload 4, 2) := by decide +kernel
theorem dX4_put_40 : decode cX4_put 40 = .ok (.getfield 144, 3) := by decide +kernel
theorem dX4_put_43 : decode cX4_put 43 = .ok (.iconst (-1), 1) := by decide +kernel
theorem dX4_put_44 : decode cX4_put 44 = .ok (.if_icmp .ne 23, 3) := by decide +kernel
theorem dX4_put_47 : decode cX4_put 47 = .ok (.aload 4, 2) := by decide +kernel
theorem dX4_put_49 : decode cX4_put 49 = .ok (.getfield 149, 3) := by decide +kernel
theorem dX4_put_52 : decode cX4_put 52 = .ok (.ifCond .ne 15, 3) := by decide +kernel
theorem dX4_put_55 : decode cX4_put 55 = .ok (.aload 4, 2) := by decide +kernel
theorem dX4_put_57 : decode cX4_put 57 = .ok (.getfield 152, 3) := by decide +kernel
theorem dX4_put_60 : decode cX4_put 60 = .ok (.aload_n 0, 1) := by decide +kernel
theorem dX4_put_61 : decode cX4_put 61 = .ok (.getfield 25, 3) := by decide +kernel
theorem dX4_put_64 : decode cX4_put 64 = .ok (.if_icmp .le 13, 3) := by decide +kernel
theorem dX4_put_67 : decode cX4_put 67 = .ok (.new 48, 3) := by decide +kernel
theorem dX4_put_70 : decode cX4_put 70 = .ok (.dup, 1) := by decide +kernel
theorem dX4_put_71 : decode cX4_put 71 = .ok (.ldc 155, 2) := by decide +kernel
theorem dX4_put_73 : decode cX4_put 73 = .ok (.invokespecial 52, 3) := by decide +kernel
theorem dX4_put_76 : decode cX4_put 76 = .ok (.athrow, 1) := by decide +kernel
theorem dX4_put_77 : decode cX4_put 77 = .ok (.aload 4, 2) := by decide +kernel
theorem dX4_put_79 : decode cX4_put 79 = .ok (.iload_n 3, 1) := by decide +kernel
theorem dX4_put_80 : decode cX4_put 80 = .ok (.putfield 144, 3) := by decide +kernel
theorem dX4_put_83 : decode cX4_put 83 = .ok (.aload 5, 2) := by decide +kernel
theorem dX4_put_85 : decode cX4_put 85 = .ok (.dup, 1) := by decide +kernel
theorem dX4_put_86 : decode cX4_put 86 = .ok (.getfield 157, 3) := by decide +kernel
theorem dX4_put_89 : decode cX4_put 89 = .ok (.iconst 1, 1) := by decide +kernel
theorem dX4_put_90 : decode cX4_put 90 = .ok (.iadd, 1) := by decide +kernel
theorem dX4_put_91 : decode cX4_put 91 = .ok (.putfield 157, 3) := by decide +kernel
theorem dX4_put_94 : decode cX4_put 94 = .ok (.aload 5, 2) := by decide +kernel
theorem dX4_put_96 : decode cX4_put 96 = .ok (.getfield 157, 3) := by decide +kernel
theorem dX4_put_99 : decode cX4_put 99 = .ok (.ireturn, 1) := by decide +kernel
theorem dX4_pass_0 : decode cX4_pass 0 = .ok (.iload_n 1, 1) := by decide +kernel
theorem dX4_pass_1 : decode cX4_pass 1 = .ok (.iconst 1, 1) := by decide +kernel
theorem dX4_pass_2 : decode cX4_pass 2 = .ok (.sipush 200, 3) := by decide +kernel
theorem dX4_pass_5 : decode cX4_pass 5 = .ok (.invokestatic 29, 3) := by decide +kernel
theorem dX4_pass_8 : decode cX4_pass 8 = .ok (.ifCond .ne 13, 3) := by decide +kernel
theorem dX4_pass_11 : decode cX4_pass 11 = .ok (.new 33, 3) := by decide +kernel
theorem dX4_pass_14 : decode cX4_pass 14 = .ok (.dup, 1) := by decide +kernel
theorem dX4_pass_15 : decode cX4_pass 15 = .ok (.ldc 160, 2) := by decide +kernel
theorem dX4_pass_17 : decode cX4_pass 17 = .ok (.invokespecial 37, 3) := by decide +kernel
theorem dX4_pass_20 : decode cX4_pass 20 = .ok (.athrow, 1) := by decide +kernel
theorem dX4_pass_21 : decode cX4_pass 21 = .ok (.iconst 0, 1) := by decide +kernel
theorem dX4_pass_22 : decode cX4_pass 22 = .ok (.istore_n 2, 1) := by decide +kernel
theorem dX4_pass_23 : decode cX4_pass 23 = .ok (.iconst 0, 1) := by decide +kernel
theorem dX4_pass_24 : decode cX4_pass 24 = .ok (.istore_n 3, 1) := by decide +kernel
theorem dX4_pass_25 : decode cX4_pass 25 = .ok (.iload_n 3, 1) := by decide +kernel
theorem dX4_pass_26 : decode cX4_pass 26 = .ok (.iload_n 1, 1) := by decide +kernel
theorem dX4_pass_27 : decode cX4_pass 27 = .ok (.if_icmp .ge 30, 3) := by decide +kernel
theorem dX4_pass_30 : decode cX4_pass 30 = .ok (.aload_n 0, 1) := by decide +kernel
theorem dX4_pass_31 : decode cX4_pass 31 = .ok (.invokevirtual 162, 3) := by decide +kernel
theorem dX4_pass_34 : decode cX4_pass 34 = .ok (.aload_n 0, 1) := by decide +kernel
theorem dX4_pass_35 : decode cX4_pass 35 = .ok (.dup, 1) := by decide +kernel
theorem dX4_pass_36 : decode cX4_pass 36 = .ok (.getfield 25, 3) := by decide +kernel
theorem dX4_pass_39 : decode cX4_pass 39 = .ok (.iconst 1, 1) := by decide +kernel
theorem dX4_pass_40 : decode cX4_pass 40 = .ok (.iadd, 1) := by decide +kernel
theorem dX4_pass_41 : decode cX4_pass 41 = .ok (.putfield 25, 3) := by decide +kernel
theorem dX4_pass_44 : decode cX4_pass 44 = .ok (.iload_n 2, 1) := by decide +kernel
theorem dX4_pass_45 : decode cX4_pass 45 = .ok (.aload_n 0, 1) := by decide +kernel
theorem dX4_pass_46 : decode cX4_pass 46 = .ok (.invokevirtual 165, 3) := by decide +kernel
theorem dX4_pass_49 : decode cX4_pass 49 = .ok (.iadd, 1) := by decide +kernel
theorem dX4_pass_50 : decode cX4_pass 50 = .ok (.istore_n 2, 1) := by decide +kernel
theorem dX4_pass_51 : decode cX4_pass 51 = .ok (.iinc 3 1, 3) := by decide +kernel
theorem dX4_pass_54 : decode cX4_pass 54 = .ok (.goto (-29), 3) := by decide +kernel
theorem dX4_pass_57 : decode cX4_pass 57 = .ok (.iload_n 2, 1) := by decide +kernel
theorem dX4_pass_58 : decode cX4_pass 58 = .ok (.ireturn, 1) := by decide +kernel
theorem dX4_prints_0 : decode cX4_prints 0 = .ok (.aload_n 0, 1) := by decide +kernel
theorem dX4_prints_1 : decode cX4_prints 1 = .ok (.iload_n 1, 1) := by decide +kernel
theorem dX4_prints_2 : decode cX4_prints 2 = .ok (.invokevirtual 97, 3) := by decide +kernel
theorem dX4_prints_5 : decode cX4_prints 5 = .ok (.astore_n 2, 1) := by decide +kernel
theorem dX4_prints_6 : decode cX4_prints 6 = .ok (.aload_n 2, 1) := by decide +kernel
theorem dX4_prints_7 : decode cX4_prints 7 = .ok (.ifnonnull 13, 3) := by decide +kernel
theorem dX4_prints_10 : decode cX4_prints 10 = .ok (.new 67, 3) := by decide +kernel
theorem dX4_prints_13 : decode cX4_prints 13 = .ok (.dup, 1) := by decide +kernel
theorem dX4_prints_14 : decode cX4_prints 14 = .ok (.ldc 101, 2) := by decide +kernel
theorem dX4_prints_16 : decode cX4_prints 16 = .ok (.invokespecial 71, 3) := by decide +kernel
theorem dX4_prints_19 : decode cX4_prints 19 = .ok (.athrow, 1) := by decide +kernel
theorem dX4_prints_20 : decode cX4_prints 20 = .ok (.aload_n 2, 1) := by decide +kernel
theorem dX4_prints_21 : decode cX4_prints 21 = .ok (.getfield 168, 3) := by decide +kernel
theorem dX4_prints_24 : decode cX4_prints 24 = .ok (.astore_n 3, 1) := by decide +kernel
theorem dX4_prints_25 : decode cX4_prints 25 = .ok (.aload_n 3, 1) := by decide +kernel
theorem dX4_prints_26 : decode cX4_prints 26 = .ok (.ifnonnull 7, 3) := by decide +kernel
theorem dX4_prints_29 : decode cX4_prints 29 = .ok (.iconst 0, 1) := by decide +kernel
theorem dX4_prints_30 : decode cX4_prints 30 = .ok (.goto 21, 3) := by decide +kernel
theorem dX4_prints_33 : decode cX4_prints 33 = .ok (.sipush 1000, 3) := by decide +kernel
theorem dX4_prints_36 : decode cX4_prints 36 = .ok (.aload_n 2, 1) := by decide +kernel
theorem dX4_prints_37 : decode cX4_prints 37 = .ok (.getfield 172, 3) := by decide +kernel
theorem dX4_prints_40 : decode cX4_prints 40 = .ok (.imul, 1) := by decide +kernel
theorem dX4_prints_41 : decode cX4_prints 41 = .ok (.bipush 10, 2) := by decide +kernel
theorem dX4_prints_43 : decode cX4_prints 43 = .ok (.aload_n 3, 1) := by decide +kernel
theorem dX4_prints_44 : decode cX4_prints 44 = .ok (.getfield 175, 3) := by decide +kernel
theorem dX4_prints_47 : decode cX4_prints 47 = .ok (.imul, 1) := by decide +kernel
theorem dX4_prints_48 : decode cX4_prints 48 = .ok (.iadd, 1) := by decide +kernel
theorem dX4_prints_49 : decode cX4_prints 49 = .ok (.iconst 1, 1) := by decide +kernel
theorem dX4_prints_50 : decode cX4_prints 50 = .ok (.iadd, 1) := by decide +kernel
theorem dX4_prints_51 : decode cX4_prints 51 = .ok (.ireturn, 1) := by decide +kernel
theorem dX4_dry_0 : decode cX4_dry 0 = .ok (.aload_n 0, 1) := by decide +kernel
theorem dX4_dry_1 : decode cX4_dry 1 = .ok (.iload_n 1, 1) := by decide +kernel
theorem dX4_dry_2 : decode cX4_dry 2 = .ok (.invokevirtual 56, 3) := by decide +kernel
theorem dX4_dry_5 : decode cX4_dry 5 = .ok (.iload_n 2, 1) := by decide +kernel
theorem dX4_dry_6 : decode cX4_dry 6 = .ok (.invokestatic 87, 3) := by decide +kernel
theorem dX4_dry_9 : decode cX4_dry 9 = .ok (.astore_n 3, 1) := by decide +kernel
theorem dX4_dry_10 : decode cX4_dry 10 = .ok (.aload_n 3, 1) := by decide +kernel
theorem dX4_dry_11 : decode cX4_dry 11 = .ok (.ifnonnull 13, 3) := by decide +kernel
theorem dX4_dry_14 : decode cX4_dry 14 = .ok (.new 67, 3) := by decide +kernel
theorem dX4_dry_17 : decode cX4_dry 17 = .ok (.dup, 1) := by decide +kernel
theorem dX4_dry_18 : decode cX4_dry 18 = .ok (.ldc 178, 2) := by decide +kernel
theorem dX4_dry_20 : decode cX4_dry 20 = .ok (.invokespecial 71, 3) := by decide +kernel
theorem dX4_dry_23 : decode cX4_dry 23 = .ok (.athrow, 1) := by decide +kernel
theorem dX4_dry_24 : decode cX4_dry 24 = .ok (.aload_n 3, 1) := by decide +kernel
theorem dX4_dry_25 : decode cX4_dry 25 = .ok (.getfield 152, 3) := by decide +kernel
theorem dX4_dry_28 : decode cX4_dry 28 = .ok (.ireturn, 1) := by decide +kernel
theorem dX4_ink_0 : decode cX4_ink 0 = .ok (.aload_n 0, 1) := by decide +kernel
theorem dX4_ink_1 : decode cX4_ink 1 = .ok (.iload_n 1, 1) := by decide +kernel
theorem dX4_ink_2 : decode cX4_ink 2 = .ok (.invokevirtual 56, 3) := by decide +kernel
theorem dX4_ink_5 : decode cX4_ink 5 = .ok (.astore 4, 2) := by decide +kernel
theorem dX4_ink_7 : decode cX4_ink 7 = .ok (.aload 4, 2) := by decide +kernel
theorem dX4_ink_9 : decode cX4_ink 9 = .ok (.ifnull 19, 3) := by decide +kernel
theorem dX4_ink_12 : decode cX4_ink 12 = .ok (.iload_n 2, 1) := by decide +kernel
theorem dX4_ink_13 : decode cX4_ink 13 = .ok (.invokestatic 60, 3) := by decide +kernel
theorem dX4_ink_16 : decode cX4_ink 16 = .ok (.ifCond .eq 12, 3) := by decide +kernel
theorem dX4_ink_19 : decode cX4_ink 19 = .ok (.aload 4, 2) := by decide +kernel
theorem dX4_ink_21 : decode cX4_ink 21 = .ok (.iload_n 3, 1) := by decide +kernel
theorem dX4_ink_22 : decode cX4_ink 22 = .ok (.invokevirtual 64, 3) := by decide +kernel
theorem dX4_ink_25 : decode cX4_ink 25 = .ok (.ifCond .ne 13, 3) := by decide +kernel
theorem dX4_ink_28 : decode cX4_ink 28 = .ok (.new 67, 3) := by decide +kernel
theorem dX4_ink_31 : decode cX4_ink 31 = .ok (.dup, 1) := by decide +kernel
theorem dX4_ink_32 : decode cX4_ink 32 = .ok (.ldc 69, 2) := by decide +kernel
theorem dX4_ink_34 : decode cX4_ink 34 = .ok (.invokespecial 71, 3) := by decide +kernel
theorem dX4_ink_37 : decode cX4_ink 37 = .ok (.athrow, 1) := by decide +kernel
theorem dX4_ink_38 : decode cX4_ink 38 = .ok (.aload 4, 2) := by decide +kernel
theorem dX4_ink_40 : decode cX4_ink 40 = .ok (.iload_n 2, 1) := by decide +kernel
theorem dX4_ink_41 : decode cX4_ink 41 = .ok (.iload_n 3, 1) := by decide +kernel
theorem dX4_ink_42 : decode cX4_ink 42 = .ok (.invokevirtual 180, 3) := by decide +kernel
theorem dX4_ink_45 : decode cX4_ink 45 = .ok (.ireturn, 1) := by decide +kernel
theorem dX4_spilt_0 : decode cX4_spilt 0 = .ok (.aload_n 0, 1) := by decide +kernel
theorem dX4_spilt_1 : decode cX4_spilt 1 = .ok (.iload_n 1, 1) := by decide +kernel
theorem dX4_spilt_2 : decode cX4_spilt 2 = .ok (.invokevirtual 56, 3) := by decide +kernel
theorem dX4_spilt_5 : decode cX4_spilt 5 = .ok (.astore_n 2, 1) := by decide +kernel
theorem dX4_spilt_6 : decode cX4_spilt 6 = .ok (.aload_n 2, 1) := by decide +kernel
theorem dX4_spilt_7 : decode cX4_spilt 7 = .ok (.ifnonnull 13, 3) := by decide +kernel
theorem dX4_spilt_10 : decode cX4_spilt 10 = .ok (.new 67, 3) := by decide +kernel
theorem dX4_spilt_13 : decode cX4_spilt 13 = .ok (.dup, 1) := by decide +kernel
theorem dX4_spilt_14 : decode cX4_spilt 14 = .ok (.ldc 82, 2) := by decide +kernel
theorem dX4_spilt_16 : decode cX4_spilt 16 = .ok (.invokespecial 71, 3) := by decide +kernel
theorem dX4_spilt_19 : decode cX4_spilt 19 = .ok (.athrow, 1) := by decide +kernel
theorem dX4_spilt_20 : decode cX4_spilt 20 = .ok (.aload_n 2, 1) := by decide +kernel
theorem dX4_spilt_21 : decode cX4_spilt 21 = .ok (.invokevirtual 184, 3) := by decide +kernel
theorem dX4_spilt_24 : decode cX4_spilt 24 = .ok (.ireturn, 1) := by decide +kernel
theorem dX4_used_0 : decode cX4_used 0 = .ok (.iload_n 1, 1) := by decide +kernel
theorem dX4_used_1 : decode cX4_used 1 = .ok (.ifCond .eq 28, 3) := by decide +kernel
theorem dX4_used_4 : decode cX4_used 4 = .ok (.aload_n 0, 1) := by decide +kernel
theorem dX4_used_5 : decode cX4_used 5 = .ok (.iload_n 2, 1) := by decide +kernel
theorem dX4_used_6 : decode cX4_used 6 = .ok (.invokevirtual 56, 3) := by decide +kernel
theorem dX4_used_9 : decode cX4_used 9 = .ok (.astore_n 3, 1) := by decide +kernel
theorem dX4_used_10 : decode cX4_used 10 = .ok (.aload_n 3, 1) := by decide +kernel
theorem dX4_used_11 : decode cX4_used 11 = .ok (.ifnonnull 13, 3) := by decide +kernel
theorem dX4_used_14 : decode cX4_used 14 = .ok (.new 67, 3) := by decide +kernel
theorem dX4_used_17 : decode cX4_used 17 = .ok (.dup, 1) := by decide +kernel
theorem dX4_used_18 : decode cX4_used 18 = .ok (.ldc 82, 2) := by decide +kernel
theorem dX4_used_20 : decode cX4_used 20 = .ok (.invokespecial 71, 3) := by decide +kernel
theorem dX4_used_23 : decode cX4_used 23 = .ok (.athrow, 1) := by decide +kernel
theorem dX4_used_24 : decode cX4_used 24 = .ok (.aload_n 3, 1) := by decide +kernel
theorem dX4_used_25 : decode cX4_used 25 = .ok (.getfield 187, 3) := by decide +kernel
theorem dX4_used_28 : decode cX4_used 28 = .ok (.ireturn, 1) := by decide +kernel
theorem dX4_used_29 : decode cX4_used 29 = .ok (.aload_n 0, 1) := by decide +kernel
theorem dX4_used_30 : decode cX4_used 30 = .ok (.iload_n 2, 1) := by decide +kernel
theorem dX4_used_31 : decode cX4_used 31 = .ok (.invokevirtual 97, 3) := by decide +kernel
theorem dX4_used_34 : decode cX4_used 34 = .ok (.astore_n 3, 1) := by decide +kernel
theorem dX4_used_35 : decode cX4_used 35 = .ok (.aload_n 3, 1) := by decide +kernel
theorem dX4_used_36 : decode cX4_used 36 = .ok (.ifnonnull 13, 3) := by decide +kernel
theorem dX4_used_39 : decode cX4_used 39 = .ok (.new 67, 3) := by decide +kernel
theorem dX4_used_42 : decode cX4_used 42 = .ok (.dup, 1) := by decide +kernel
theorem dX4_used_43 : decode cX4_used 43 = .ok (.ldc 101, 2) := by decide +kernel
theorem dX4_used_45 : decode cX4_used 45 = .ok (.invokespecial 71, 3) := by decide +kernel
theorem dX4_used_48 : decode cX4_used 48 = .ok (.athrow, 1) := by decide +kernel
theorem dX4_used_49 : decode cX4_used 49 = .ok (.aload_n 3, 1) := by decide +kernel
theorem dX4_used_50 : decode cX4_used 50 = .ok (.getfield 129, 3) := by decide +kernel
theorem dX4_used_53 : decode cX4_used 53 = .ok (.ireturn, 1) := by decide +kernel
theorem dX4_seam_0 : decode cX4_seam 0 = .ok (.aload_n 0, 1) := by decide +kernel
theorem dX4_seam_1 : decode cX4_seam 1 = .ok (.iload_n 1, 1) := by decide +kernel
theorem dX4_seam_2 : decode cX4_seam 2 = .ok (.invokevirtual 56, 3) := by decide +kernel
theorem dX4_seam_5 : decode cX4_seam 5 = .ok (.astore_n 3, 1) := by decide +kernel
theorem dX4_seam_6 : decode cX4_seam 6 = .ok (.aload_n 3, 1) := by decide +kernel
theorem dX4_seam_7 : decode cX4_seam 7 = .ok (.iload_n 2, 1) := by decide +kernel
theorem dX4_seam_8 : decode cX4_seam 8 = .ok (.invokestatic 87, 3) := by decide +kernel
theorem dX4_seam_11 : decode cX4_seam 11 = .ok (.astore 4, 2) := by decide +kernel
theorem dX4_seam_13 : decode cX4_seam 13 = .ok (.aload 4, 2) := by decide +kernel
theorem dX4_seam_15 : decode cX4_seam 15 = .ok (.ifnonnull 7, 3) := by decide +kernel
theorem dX4_seam_18 : decode cX4_seam 18 = .ok (.aconst_null, 1) := by decide +kernel
theorem dX4_seam_19 : decode cX4_seam 19 = .ok (.goto 10, 3) := by decide +kernel
theorem dX4_seam_22 : decode cX4_seam 22 = .ok (.aload_n 3, 1) := by decide +kernel
theorem dX4_seam_23 : decode cX4_seam 23 = .ok (.iload_n 2, 1) := by decide +kernel
theorem dX4_seam_24 : decode cX4_seam 24 = .ok (.iconst 1, 1) := by decide +kernel
theorem dX4_seam_25 : decode cX4_seam 25 = .ok (.iadd, 1) := by decide +kernel
theorem dX4_seam_26 : decode cX4_seam 26 = .ok (.invokestatic 87, 3) := by decide +kernel
theorem dX4_seam_29 : decode cX4_seam 29 = .ok (.astore 5, 2) := by decide +kernel
theorem dX4_seam_31 : decode cX4_seam 31 = .ok (.aload_n 3, 1) := by decide +kernel
theorem dX4_seam_32 : decode cX4_seam 32 = .ok (.ifnull 13, 3) := by decide +kernel
theorem dX4_seam_35 : decode cX4_seam 35 = .ok (.aload 4, 2) := by decide +kernel
theorem dX4_seam_37 : decode cX4_seam 37 = .ok (.ifnull 8, 3) := by decide +kernel
theorem dX4_seam_40 : decode cX4_seam 40 = .ok (.aload 5, 2) := by decide +kernel
theorem dX4_seam_42 : decode cX4_seam 42 = .ok (.ifnonnull 13, 3) := by decide +kernel
theorem dX4_seam_45 : decode cX4_seam 45 = .ok (.new 67, 3) := by decide +kernel
theorem dX4_seam_48 : decode cX4_seam 48 = .ok (.dup, 1) := by decide +kernel
theorem dX4_seam_49 : decode cX4_seam 49 = .ok (.ldc 190, 2) := by decide +kernel
theorem dX4_seam_51 : decode cX4_seam 51 = .ok (.invokespecial 71, 3) := by decide +kernel
theorem dX4_seam_54 : decode cX4_seam 54 = .ok (.athrow, 1) := by decide +kernel
theorem dX4_seam_55 : decode cX4_seam 55 = .ok (.aload 4, 2) := by decide +kernel
theorem dX4_seam_57 : decode cX4_seam 57 = .ok (.invokevirtual 192, 3) := by decide +kernel
theorem dX4_seam_60 : decode cX4_seam 60 = .ok (.ifCond .eq 11, 3) := by decide +kernel
theorem dX4_seam_63 : decode cX4_seam 63 = .ok (.aload 5, 2) := by decide +kernel
theorem dX4_seam_65 : decode cX4_seam 65 = .ok (.invokevirtual 192, 3) := by decide +kernel
theorem dX4_seam_68 : decode cX4_seam 68 = .ok (.ifCond .ne 13, 3) := by decide +kernel
theorem dX4_seam_71 : decode cX4_seam 71 = .ok (.new 48, 3) := by decide +kernel
theorem dX4_seam_74 : decode cX4_seam 74 = .ok (.dup, 1) := by decide +kernel
theorem dX4_seam_75 : decode cX4_seam 75 = .ok (.ldc 195, 2) := by decide +kernel
theorem dX4_seam_77 : decode cX4_seam 77 = .ok (.invokespecial 52, 3) := by decide +kernel
theorem dX4_seam_80 : decode cX4_seam 80 = .ok (.athrow, 1) := by decide +kernel
theorem dX4_seam_81 : decode cX4_seam 81 = .ok (.aload_n 3, 1) := by decide +kernel
theorem dX4_seam_82 : decode cX4_seam 82 = .ok (.aload 4, 2) := by decide +kernel
theorem dX4_seam_84 : decode cX4_seam 84 = .ok (.aload 5, 2) := by decide +kernel
theorem dX4_seam_86 : decode cX4_seam 86 = .ok (.invokevirtual 197, 3) := by decide +kernel
theorem dX4_seam_89 : decode cX4_seam 89 = .ok (.ireturn, 1) := by decide +kernel
theorem dX4_meanError_0 : decode cX4_meanError 0 = .ok (.aload_n 0, 1) := by decide +kernel
theorem dX4_meanError_1 : decode cX4_meanError 1 = .ok (.iload_n 1, 1) := by decide +kernel
theorem dX4_meanError_2 : decode cX4_meanError 2 = .ok (.invokevirtual 56, 3) := by decide +kernel
theorem dX4_meanError_5 : decode cX4_meanError 5 = .ok (.astore_n 2, 1) := by decide +kernel
theorem dX4_meanError_6 : decode cX4_meanError 6 = .ok (.aload_n 2, 1) := by decide +kernel
theorem dX4_meanError_7 : decode cX4_meanError 7 = .ok (.ifnonnull 13, 3) := by decide +kernel
theorem dX4_meanError_10 : decode cX4_meanError 10 = .ok (.new 67, 3) := by decide +kernel
theorem dX4_meanError_13 : decode cX4_meanError 13 = .ok (.dup, 1) := by decide +kernel
theorem dX4_meanError_14 : decode cX4_meanError 14 = .ok (.ldc 82, 2) := by decide +kernel
theorem dX4_meanError_16 : decode cX4_meanError 16 = .ok (.invokespecial 71, 3) := by decide +kernel
theorem dX4_meanError_19 : decode cX4_meanError 19 = .ok (.athrow, 1) := by decide +kernel
theorem dX4_meanError_20 : decode cX4_meanError 20 = .ok (.bipush 8, 2) := by decide +kernel
theorem dX4_meanError_22 : decode cX4_meanError 22 = .ok (.aload_n 2, 1) := by decide +kernel
theorem dX4_meanError_23 : decode cX4_meanError 23 = .ok (.getfield 72, 3) := by decide +kernel
theorem dX4_meanError_26 : decode cX4_meanError 26 = .ok (.imul, 1) := by decide +kernel
theorem dX4_meanError_27 : decode cX4_meanError 27 = .ok (.istore_n 3, 1) := by decide +kernel
theorem dX4_meanError_28 : decode cX4_meanError 28 = .ok (.iload_n 3, 1) := by decide +kernel
theorem dX4_meanError_29 : decode cX4_meanError 29 = .ok (.iconst 1, 1) := by decide +kernel
theorem dX4_meanError_30 : decode cX4_meanError 30 = .ok (.if_icmp .ge 7, 3) := by decide +kernel
theorem dX4_meanError_33 : decode cX4_meanError 33 = .ok (.fconst 0, 1) := by decide +kernel
theorem dX4_meanError_34 : decode cX4_meanError 34 = .ok (.goto 11, 3) := by decide +kernel
theorem dX4_meanError_37 : decode cX4_meanError 37 = .ok (.aload_n 2, 1) := by decide +kernel
theorem dX4_meanError_38 : decode cX4_meanError 38 = .ok (.invokevirtual 201, 3) := by decide +kernel
theorem dX4_meanError_41 : decode cX4_meanError 41 = .ok (.i2f, 1) := by decide +kernel
theorem dX4_meanError_42 : decode cX4_meanError 42 = .ok (.iload_n 3, 1) := by decide +kernel
theorem dX4_meanError_43 : decode cX4_meanError 43 = .ok (.i2f, 1) := by decide +kernel
theorem dX4_meanError_44 : decode cX4_meanError 44 = .ok (.fdiv, 1) := by decide +kernel
theorem dX4_meanError_45 : decode cX4_meanError 45 = .ok (.freturn, 1) := by decide +kernel

def wX4_fill (a0 : Nat) (x1 : Int32) (x2 : Int32) (x3 : Int32) (x4 : Int32) (x5 : Int32) (S : HS) (Q : Int32 → HS → Prop) (QX : String → HS → Prop) : Prop := (ok S a0 4 ∧ (wX4_bannerAt a0 x1 S (fun o1 S1 => ((o1 = none → QX "java/lang/IndexOutOfBoundsException" S1) ∧ (∀ q1, o1 = some q1 → (wX4_isRow x2 S1 (fun r1 S2 => ((r1 = 0 → QX "java/lang/IndexOutOfBoundsException" S2) ∧ (¬ r1 = 0 → (ok S2 q1 0 ∧ (wX0_hasColumn q1 x3 S2 (fun r2 S3 => ((¬ r2 = 0 → (ok S3 q1 0 ∧ (wX4_isWithin x4 (x3 + (1 : Int32)) (gI S3 0 q1) S3 (fun r3 S4 => ((¬ r3 = 0 → (wX4_isWithin x5 (0 : Int32) (15 : Int32) S4 (fun r4 S5 => ((¬ r4 = 0 → (ok S5 q1 0 ∧ (wX0_setLevels q1 x2 x3 x4 x5 S5 (fun r5 S6 => Q r5 S6)))) ∧ (r4 = 0 → QX "java/lang/IllegalArgumentException" S5))))) ∧ (r3 = 0 → QX "java/lang/IllegalArgumentException" S4)))))) ∧ (r2 = 0 → QX "java/lang/IndexOutOfBoundsException" S3))))))))))))))

def wX4_strips (a0 : Nat) (x1 : Int32) (S : HS) (Q : Int32 → HS → Prop) (QX : String → HS → Prop) : Prop := (ok S a0 4 ∧ (wX4_bannerAt a0 x1 S (fun o1 S1 => ((o1 = none → QX "java/lang/IndexOutOfBoundsException" S1) ∧ (∀ q1, o1 = some q1 → (ok S1 q1 0 ∧ Q (gI S1 6 q1) S1))))))

def wX4_toLay (a0 : Nat) (x1 : Int32) (x2 : Int32) (x3 : Int32) (x4 : Int32) (S : HS) (Q : Int32 → HS → Prop) (QX : String → HS → Prop) : Prop := (ok S a0 4 ∧ (wX4_bannerAt a0 x1 S (fun o1 S1 => (wX4_stripAt o1 x2 S1 (fun o2 S2 => ((o1 = none → QX "java/lang/IndexOutOfBoundsException" S2) ∧ (∀ q1, o1 = some q1 → ((o2 = none → QX "java/lang/IndexOutOfBoundsException" S2) ∧ (∀ q2, o2 = some q2 → (wX4_isRow x3 S2 (fun r1 S3 => ((r1 = 0 → QX "java/lang/IndexOutOfBoundsException" S3) ∧ (¬ r1 = 0 → (ok S3 q1 0 ∧ (wX0_hasColumn q1 x4 S3 (fun r2 S4 => ((¬ r2 = 0 → (ok S4 q1 0 ∧ (wX0_share q1 (some q2) x3 x4 S4 (fun r3 S5 => Q r3 S5)))) ∧ (r2 = 0 → QX "java/lang/IndexOutOfBoundsException" S4))))))))))))))))))

def wX4_setGain (a0 : Nat) (x1 : Int32) (x2 : Int32) (S : HS) (Q : Int32 → HS → Prop) (QX : String → HS → Prop) : Prop := (ok S a0 4 ∧ (wX4_printerAt a0 x1 S (fun o1 S1 => ((o1 = none → QX "java/lang/IndexOutOfBoundsException" S1) ∧ (∀ q1, o1 = some q1 → (wX4_isWithin x2 (50 : Int32) (200 : Int32) S1 (fun r1 S2 => ((¬ r1 = 0 → (ok S2 q1 2 ∧ (ok S2 q1 2 ∧ (∀ S3, S3 = sI S2 64 q1 x2 → Q (gI S2 64 q1) S3)))) ∧ (r1 = 0 → QX "java/lang/IllegalArgumentException" S2)))))))))

def wX4_match (a0 : Nat) (x1 : Int32) (S : HS) (Q : Int32 → HS → Prop) (QX : String → HS → Prop) : Prop := (ok S a0 4 ∧ (wX4_printerAt a0 x1 S (fun o1 S1 => ((o1 = none → QX "java/lang/IndexOutOfBoundsException" S1) ∧ (∀ q1, o1 = some q1 → (ok S1 q1 2 ∧ (wX2_correctByGain q1 S1 (fun r1 S2 => Q r1 S2))))))))

def wX4_block (a0 : Nat) (x1 : Int32) (x2 : Int32) (S : HS) (Q : Int32 → HS → Prop) (QX : String → HS → Prop) : Prop := (ok S a0 4 ∧ (wX4_printerAt a0 x1 S (fun o1 S1 => ((o1 = none → QX "java/lang/IndexOutOfBoundsException" S1) ∧ (∀ q1, o1 = some q1 → (wX4_isRow x2 S1 (fun r1 S2 => ((¬ r1 = 0 → (ok S2 q1 2 ∧ (wX2_blockNozzle q1 x2 S2 (fun S3 => (ok S3 q1 2 ∧ (wX2_blockedCount q1 S3 (fun r2 S4 => Q r2 S4))))))) ∧ (r1 = 0 → QX "java/lang/IndexOutOfBoundsException" S2)))))))))

def wX4_clean (a0 : Nat) (x1 : Int32) (S : HS) (Q : Int32 → HS → Prop) (QX : String → HS → Prop) : Prop := (ok S a0 4 ∧ (wX4_printerAt a0 x1 S (fun o1 S1 => ((o1 = none → QX "java/lang/IndexOutOfBoundsException" S1) ∧ (∀ q1, o1 = some q1 → (ok S1 q1 2 ∧ (wX2_isPrinting q1 S1 (fun r1 S2 => ((r1 = 0 → (ok S2 q1 2 ∧ (wX2_blockedCount q1 S2 (fun r2 S3 => (ok S3 q1 2 ∧ (wX2_freeNozzles q1 S3 (fun S4 => (ok S4 q1 2 ∧ (ok S4 q1 2 ∧ (∀ S5, S5 = sI S4 68 q1 ((gI S4 68 q1) + (20 : Int32)) → Q r2 S5)))))))))) ∧ (¬ r1 = 0 → QX "java/lang/IllegalStateException" S2))))))))))
def wX4_patch_L52 (c2 : Int32) (c3 : Int32) (c4 : Nat) : Nat → Int32 → HS → (Int32 → HS → Prop) → Prop
  | 0, _, _, _ => False
  | n + 1, m5, S, K => (((8 : Int32) ≤ m5 → K m5 S) ∧ (¬ (8 : Int32) ≤ m5 → (ok S c4 2 ∧ (wX2_setDose c4 m5 c3 S (fun S4 => wX4_patch_L52 c2 c3 c4 n (m5 + (1 : Int32)) S4 K)))))
def wX4_patch (a0 : Nat) (x1 : Int32) (x2 : Int32) (x3 : Int32) (S : HS) (Q : Int32 → HS → Prop) (QX : String → HS → Prop) : Prop := (ok S a0 4 ∧ (wX4_printerAt a0 x1 S (fun o1 S1 => ((o1 = none → QX "java/lang/IndexOutOfBoundsException" S1) ∧ (∀ q1, o1 = some q1 → (wX4_isRow x2 S1 (fun r1 S2 => ((¬ r1 = 0 → (wX4_isWithin x3 (0 : Int32) (15 : Int32) S2 (fun r2 S3 => ((¬ r2 = 0 → (∃ n1 : Nat, wX4_patch_L52 x2 x3 q1 n1 (0 : Int32) S3 (fun u1 S5 => (ok S5 q1 2 ∧ (wX2_laidInRow q1 x2 S5 (fun r3 S6 => Q r3 S6)))))) ∧ (r2 = 0 → QX "java/lang/IllegalArgumentException" S3))))) ∧ (r1 = 0 → QX "java/lang/IndexOutOfBoundsException" S2)))))))))

def wX4_put (a0 : Nat) (x1 : Int32) (x2 : Int32) (x3 : Int32) (S : HS) (Q : Int32 → HS → Prop) (QX : String → HS → Prop) : Prop := (ok S a0 4 ∧ (wX4_bannerAt a0 x1 S (fun o1 S1 => (wX4_stripAt o1 x2 S1 (fun o2 S2 => (ok S2 a0 4 ∧ (wX4_printerAt a0 x3 S2 (fun o3 S3 => ((o2 = none → QX "java/lang/IndexOutOfBoundsException" S3) ∧ (∀ q1, o2 = some q1 → ((o3 = none → QX "java/lang/IndexOutOfBoundsException" S3) ∧ (∀ q2, o3 = some q2 → (ok S3 q1 3 ∧ ((¬ (gI S3 102 q1) = (-1 : Int32) → QX "java/lang/IllegalStateException" S3) ∧ ((gI S3 102 q1) = (-1 : Int32) → (ok S3 q1 3 ∧ ((¬ (gI S3 103 q1) = 0 → QX "java/lang/IllegalStateException" S3) ∧ ((gI S3 103 q1) = 0 → (ok S3 q1 3 ∧ (ok S3 a0 4 ∧ (((gI S3 104 q1) ≤ (gI S3 131 a0) → (ok S3 q1 3 ∧ (∀ S4, S4 = sI S3 102 q1 x3 → (ok S4 q2 2 ∧ (ok S4 q2 2 ∧ (∀ S5, S5 = sI S4 69 q2 ((gI S4 69 q2) + (1 : Int32)) → (ok S5 q2 2 ∧ Q (gI S5 69 q2) S5))))))) ∧ (¬ (gI S3 104 q1) ≤ (gI S3 131 a0) → QX "java/lang/IllegalStateException" S3))))))))))))))))))))))
def wX4_pass_L25 (c0 : Nat) (c1 : Int32) : Nat → Int32 → Int32 → HS → (Int32 → Int32 → HS → Prop) → Prop
  | 0, _, _, _, _ => False
  | n + 1, m2, m3, S, K => ((c1 ≤ m3 → K m2 m3 S) ∧ (¬ c1 ≤ m3 → (ok S c0 4 ∧ (wX4_startIdlePrinters c0 S (fun S2 => (ok S2 c0 4 ∧ (ok S2 c0 4 ∧ (∀ S3, S3 = sI S2 131 c0 ((gI S2 131 c0) + (1 : Int32)) → (ok S3 c0 4 ∧ (wX4_endTick c0 S3 (fun r2 S4 => wX4_pass_L25 c0 c1 n (m2 + r2) (m3 + (1 : Int32)) S4 K)))))))))))
def wX4_pass (a0 : Nat) (x1 : Int32) (S : HS) (Q : Int32 → HS → Prop) (QX : String → HS → Prop) : Prop := (wX4_isWithin x1 (1 : Int32) (200 : Int32) S (fun r1 S1 => ((¬ r1 = 0 → (∃ n1 : Nat, wX4_pass_L25 a0 x1 n1 (0 : Int32) (0 : Int32) S1 (fun u1 u2 S5 => Q u1 S5))) ∧ (r1 = 0 → QX "java/lang/IllegalArgumentException" S1))))

def wX4_prints (a0 : Nat) (x1 : Int32) (S : HS) (Q : Int32 → HS → Prop) (QX : String → HS → Prop) : Prop := (ok S a0 4 ∧ (wX4_printerAt a0 x1 S (fun o1 S1 => ((o1 = none → QX "java/lang/IndexOutOfBoundsException" S1) ∧ (∀ q1, o1 = some q1 → (ok S1 q1 2 ∧ (∀ o2, o2 = gR S1 71 q1 → ((o2 = none → Q (0 : Int32) S1) ∧ (∀ q2, o2 = some q2 → (ok S1 q1 2 ∧ (ok S1 q2 3 ∧ Q ((((1000 : Int32) * (gI S1 72 q1)) + ((10 : Int32) * (gI S1 96 q2))) + (1 : Int32)) S1)))))))))))

def wX4_dry (a0 : Nat) (x1 : Int32) (x2 : Int32) (S : HS) (Q : Int32 → HS → Prop) (QX : String → HS → Prop) : Prop := (ok S a0 4 ∧ (wX4_bannerAt a0 x1 S (fun o1 S1 => (wX4_stripAt o1 x2 S1 (fun o2 S2 => ((o2 = none → QX "java/lang/IndexOutOfBoundsException" S2) ∧ (∀ q1, o2 = some q1 → (ok S2 q1 3 ∧ Q (gI S2 104 q1) S2))))))))

def wX4_ink (a0 : Nat) (x1 : Int32) (x2 : Int32) (x3 : Int32) (S : HS) (Q : Int32 → HS → Prop) (QX : String → HS → Prop) : Prop := (ok S a0 4 ∧ (wX4_bannerAt a0 x1 S (fun o1 S1 => ((o1 = none → QX "java/lang/IndexOutOfBoundsException" S1) ∧ (∀ q1, o1 = some q1 → (wX4_isRow x2 S1 (fun r1 S2 => ((r1 = 0 → QX "java/lang/IndexOutOfBoundsException" S2) ∧ (¬ r1 = 0 → (ok S2 q1 0 ∧ (wX0_hasColumn q1 x3 S2 (fun r2 S3 => ((¬ r2 = 0 → (ok S3 q1 0 ∧ (wX0_inkAt q1 x2 x3 S3 (fun r3 S4 => Q r3 S4)))) ∧ (r2 = 0 → QX "java/lang/IndexOutOfBoundsException" S3))))))))))))))

def wX4_spilt (a0 : Nat) (x1 : Int32) (S : HS) (Q : Int32 → HS → Prop) (QX : String → HS → Prop) : Prop := (ok S a0 4 ∧ (wX4_bannerAt a0 x1 S (fun o1 S1 => ((o1 = none → QX "java/lang/IndexOutOfBoundsException" S1) ∧ (∀ q1, o1 = some q1 → (ok S1 q1 0 ∧ (wX0_spiltDots q1 S1 (fun r1 S2 => Q r1 S2))))))))

def wX4_used (a0 : Nat) (x1 : Int32) (x2 : Int32) (S : HS) (Q : Int32 → HS → Prop) (QX : String → HS → Prop) : Prop := ((x1 = 0 → (ok S a0 4 ∧ (wX4_printerAt a0 x2 S (fun o1 S1 => ((o1 = none → QX "java/lang/IndexOutOfBoundsException" S1) ∧ (∀ q1, o1 = some q1 → (ok S1 q1 2 ∧ Q (gI S1 68 q1) S1))))))) ∧ (¬ x1 = 0 → (ok S a0 4 ∧ (wX4_bannerAt a0 x2 S (fun o2 S2 => ((o2 = none → QX "java/lang/IndexOutOfBoundsException" S2) ∧ (∀ q2, o2 = some q2 → (ok S2 q2 0 ∧ Q (gI S2 7 q2) S2))))))))
def wX4_seam_J29 (v3 : Option Nat) (v4 : Option Nat) (t0 : Option Nat) (S : HS) (Q : Int32 → HS → Prop) (QX : String → HS → Prop) : Prop := ((v3 = none → QX "java/lang/IndexOutOfBoundsException" S) ∧ (∀ q2, v3 = some q2 → ((v4 = none → QX "java/lang/IndexOutOfBoundsException" S) ∧ (∀ q3, v4 = some q3 → ((t0 = none → QX "java/lang/IndexOutOfBoundsException" S) ∧ (∀ q4, t0 = some q4 → (ok S q3 3 ∧ (wX3_wasPrinted q3 S (fun r1 S3 => ((r1 = 0 → QX "java/lang/IllegalStateException" S3) ∧ (¬ r1 = 0 → (ok S3 q4 3 ∧ (wX3_wasPrinted q4 S3 (fun r2 S4 => ((¬ r2 = 0 → (ok S4 q2 0 ∧ (wX0_seamError q2 (some q3) (some q4) S4 (fun r3 S5 => Q r3 S5)))) ∧ (r2 = 0 → QX "java/lang/IllegalStateException" S4))))))))))))))))
def wX4_seam (a0 : Nat) (x1 : Int32) (x2 : Int32) (S : HS) (Q : Int32 → HS → Prop) (QX : String → HS → Prop) : Prop := (ok S a0 4 ∧ (wX4_bannerAt a0 x1 S (fun o1 S1 => (wX4_stripAt o1 x2 S1 (fun o2 S2 => ((o2 = none → wX4_seam_J29 o1 none none S2 Q QX) ∧ (∀ q1, o2 = some q1 → (wX4_stripAt o1 (x2 + (1 : Int32)) S2 (fun o3 S6 => wX4_seam_J29 o1 (some q1) o3 S6 Q QX)))))))))

def wX4_meanError (a0 : Nat) (x1 : Int32) (S : HS) (Q : UInt32 → HS → Prop) (QX : String → HS → Prop) : Prop := (ok S a0 4 ∧ (wX4_bannerAt a0 x1 S (fun o1 S1 => ((o1 = none → QX "java/lang/IndexOutOfBoundsException" S1) ∧ (∀ q1, o1 = some q1 → (ok S1 q1 0 ∧ (((1 : Int32) ≤ ((8 : Int32) * (gI S1 0 q1)) → (ok S1 q1 0 ∧ (wX0_errorSum q1 S1 (fun r1 S2 => (vf_n32 (FP.fdiv (FP.i2f r1) (FP.i2f ((8 : Int32) * (gI S1 0 q1)))) ∧ Q (FP.fdiv (FP.i2f r1) (FP.i2f ((8 : Int32) * (gI S1 0 q1)))) S2))))) ∧ (¬ (1 : Int32) ≤ ((8 : Int32) * (gI S1 0 q1)) → Q FP.fconst0 S1))))))))
theorem kC_X4_bannerAt : Cond.code yX4_bannerAt cX4_bannerAt 2 (some (.object "StitchBanner$Banner")) ∈ T0 := T0_mem (i := 322) (by decide +kernel) (by decide +kernel)
theorem kM_RX4_56 : Cond.methodLink RX4 56 yX4_bannerAt ∈ T0 := T0_mem (i := 319) (by decide +kernel) (by decide +kernel)
theorem hd_X4_bannerAt : yX4_bannerAt.cls ≠ "java/lang/invoke/MethodHandle" ∧ yX4_bannerAt.cls ≠ "java/lang/invoke/VarHandle" ∧ (parseMethodDescriptor yX4_bannerAt.desc).map (fun d => d.parameters.length) = some 1 := by decide +kernel
theorem kO_X4_bannerAt : Cond.instanceMethod yX4_bannerAt ∈ T0 := T0_mem (i := 321) (by decide +kernel) (by decide +kernel)
theorem kV_X4_bannerAt : Cond.selects RX4 yX4_bannerAt yX4_bannerAt ∈ T0 := T0_mem (i := 1) (by decide +kernel) (by decide +kernel)
theorem kX_71 : ∀ w ∈ vx_atS RX4 71 "java/lang/IndexOutOfBoundsException" xnm, w ∈ T0 := by decide +kernel
theorem kY_71 : ∀ w ∈ Cond.classLink RX4 67 "java/lang/IndexOutOfBoundsException" :: Cond.initialized "java/lang/IndexOutOfBoundsException" :: vx_atS RX4 71 "java/lang/IndexOutOfBoundsException" xnm, vx_ot w = true := by decide +kernel
theorem kL_RX4_67 : Cond.classLink RX4 67 "java/lang/IndexOutOfBoundsException" ∈ T0 := T0_mem (i := 330) (by decide +kernel) (by decide +kernel)
theorem kI_java_lang_IndexOutOfBoundsException : Cond.initialized "java/lang/IndexOutOfBoundsException" ∈ T0 := T0_mem (i := 45) (by decide +kernel) (by decide +kernel)
theorem kC_X4_isRow : Cond.code yX4_isRow cX4_isRow 1 (some .boolean) ∈ T0 := T0_mem (i := 325) (by decide +kernel) (by decide +kernel)
theorem kM_RX4_60 : Cond.methodLink RX4 60 yX4_isRow ∈ T0 := T0_mem (i := 323) (by decide +kernel) (by decide +kernel)
theorem hd_X4_isRow : yX4_isRow.cls ≠ "java/lang/invoke/MethodHandle" ∧ yX4_isRow.cls ≠ "java/lang/invoke/VarHandle" ∧ (parseMethodDescriptor yX4_isRow.desc).map (fun d => d.parameters.length) = some 1 := by decide +kernel
theorem kS_X4_isRow : Cond.static yX4_isRow ∈ T0 := T0_mem (i := 324) (by decide +kernel) (by decide +kernel)
theorem kC_X0_hasColumn : Cond.code yX0_hasColumn cX0_hasColumn 2 (some .boolean) ∈ T0 := T0_mem (i := 329) (by decide +kernel) (by decide +kernel)
theorem kM_RX4_64 : Cond.methodLink RX4 64 yX0_hasColumn ∈ T0 := T0_mem (i := 326) (by decide +kernel) (by decide +kernel)
theorem hd_X0_hasColumn : yX0_hasColumn.cls ≠ "java/lang/invoke/MethodHandle" ∧ yX0_hasColumn.cls ≠ "java/lang/invoke/VarHandle" ∧ (parseMethodDescriptor yX0_hasColumn.desc).map (fun d => d.parameters.length) = some 1 := by decide +kernel
theorem kO_X0_hasColumn : Cond.instanceMethod yX0_hasColumn ∈ T0 := T0_mem (i := 327) (by decide +kernel) (by decide +kernel)
theorem kV_X0_hasColumn : Cond.selects RX0 yX0_hasColumn yX0_hasColumn ∈ T0 := T0_mem (i := 328) (by decide +kernel) (by decide +kernel)
theorem kF_RX4_72 : Cond.fieldLinkNest RX4 72 RX0 (TX0 0).2.1 (TX0 0).2.2.1 "StitchBanner" ∈ T0 := T0_mem (i := 283) (by decide +kernel) (by decide +kernel)
theorem kC_X4_isWithin : Cond.code yX4_isWithin cX4_isWithin 3 (some .boolean) ∈ T0 := T0_mem (i := 125) (by decide +kernel) (by decide +kernel)
theorem kM_RX4_29 : Cond.methodLink RX4 29 yX4_isWithin ∈ T0 := T0_mem (i := 123) (by decide +kernel) (by decide +kernel)
theorem hd_X4_isWithin : yX4_isWithin.cls ≠ "java/lang/invoke/MethodHandle" ∧ yX4_isWithin.cls ≠ "java/lang/invoke/VarHandle" ∧ (parseMethodDescriptor yX4_isWithin.desc).map (fun d => d.parameters.length) = some 3 := by decide +kernel
theorem kS_X4_isWithin : Cond.static yX4_isWithin ∈ T0 := T0_mem (i := 124) (by decide +kernel) (by decide +kernel)
theorem kC_X0_setLevels : Cond.code yX0_setLevels cX0_setLevels 7 (some .int) ∈ T0 := T0_mem (i := 351) (by decide +kernel) (by decide +kernel)
theorem kM_RX4_78 : Cond.methodLink RX4 78 yX0_setLevels ∈ T0 := T0_mem (i := 348) (by decide +kernel) (by decide +kernel)
theorem hd_X0_setLevels : yX0_setLevels.cls ≠ "java/lang/invoke/MethodHandle" ∧ yX0_setLevels.cls ≠ "java/lang/invoke/VarHandle" ∧ (parseMethodDescriptor yX0_setLevels.desc).map (fun d => d.parameters.length) = some 4 := by decide +kernel
theorem kO_X0_setLevels : Cond.instanceMethod yX0_setLevels ∈ T0 := T0_mem (i := 349) (by decide +kernel) (by decide +kernel)
theorem kV_X0_setLevels : Cond.selects RX0 yX0_setLevels yX0_setLevels ∈ T0 := T0_mem (i := 350) (by decide +kernel) (by decide +kernel)
theorem kX_37 : ∀ w ∈ vx_atS RX4 37 "java/lang/IllegalArgumentException" xnm, w ∈ T0 := by decide +kernel
theorem kY_37 : ∀ w ∈ Cond.classLink RX4 33 "java/lang/IllegalArgumentException" :: Cond.initialized "java/lang/IllegalArgumentException" :: vx_atS RX4 37 "java/lang/IllegalArgumentException" xnm, vx_ot w = true := by decide +kernel
theorem kL_RX4_33 : Cond.classLink RX4 33 "java/lang/IllegalArgumentException" ∈ T0 := T0_mem (i := 126) (by decide +kernel) (by decide +kernel)
theorem kI_java_lang_IllegalArgumentException : Cond.initialized "java/lang/IllegalArgumentException" ∈ T0 := T0_mem (i := 39) (by decide +kernel) (by decide +kernel)
theorem kF_RX4_84 : Cond.fieldLinkNest RX4 84 RX0 (TX0 6).2.1 (TX0 6).2.2.1 "StitchBanner" ∈ T0 := T0_mem (i := 291) (by decide +kernel) (by decide +kernel)
theorem kC_X4_stripAt : Cond.code yX4_stripAt cX4_stripAt 2 (some (.object "StitchBanner$Strip")) ∈ T0 := T0_mem (i := 376) (by decide +kernel) (by decide +kernel)
theorem kM_RX4_87 : Cond.methodLink RX4 87 yX4_stripAt ∈ T0 := T0_mem (i := 374) (by decide +kernel) (by decide +kernel)
theorem hd_X4_stripAt : yX4_stripAt.cls ≠ "java/lang/invoke/MethodHandle" ∧ yX4_stripAt.cls ≠ "java/lang/invoke/VarHandle" ∧ (parseMethodDescriptor yX4_stripAt.desc).map (fun d => d.parameters.length) = some 2 := by decide +kernel
theorem kS_X4_stripAt : Cond.static yX4_stripAt ∈ T0 := T0_mem (i := 375) (by decide +kernel) (by decide +kernel)
theorem kM_RX4_93 : Cond.methodLink RX4 93 yX0_share ∈ T0 := T0_mem (i := 382) (by decide +kernel) (by decide +kernel)
theorem kC_X4_printerAt : Cond.code yX4_printerAt cX4_printerAt 2 (some (.object "StitchBanner$Printer")) ∈ T0 := T0_mem (i := 404) (by decide +kernel) (by decide +kernel)
theorem kM_RX4_97 : Cond.methodLink RX4 97 yX4_printerAt ∈ T0 := T0_mem (i := 401) (by decide +kernel) (by decide +kernel)
theorem hd_X4_printerAt : yX4_printerAt.cls ≠ "java/lang/invoke/MethodHandle" ∧ yX4_printerAt.cls ≠ "java/lang/invoke/VarHandle" ∧ (parseMethodDescriptor yX4_printerAt.desc).map (fun d => d.parameters.length) = some 1 := by decide +kernel
theorem kO_X4_printerAt : Cond.instanceMethod yX4_printerAt ∈ T0 := T0_mem (i := 403) (by decide +kernel) (by decide +kernel)
theorem kV_X4_printerAt : Cond.selects RX4 yX4_printerAt yX4_printerAt ∈ T0 := T0_mem (i := 2) (by decide +kernel) (by decide +kernel)
theorem kF_RX4_105 : Cond.fieldLinkNest RX4 105 RX2 (TX2 0).2.1 (TX2 0).2.2.1 "StitchBanner" ∈ T0 := T0_mem (i := 64) (by decide +kernel) (by decide +kernel)
theorem kC_X2_correctByGain : Cond.code yX2_correctByGain cX2_correctByGain 1 (some .int) ∈ T0 := T0_mem (i := 417) (by decide +kernel) (by decide +kernel)
theorem kM_RX4_107 : Cond.methodLink RX4 107 yX2_correctByGain ∈ T0 := T0_mem (i := 414) (by decide +kernel) (by decide +kernel)
theorem hd_X2_correctByGain : yX2_correctByGain.cls ≠ "java/lang/invoke/MethodHandle" ∧ yX2_correctByGain.cls ≠ "java/lang/invoke/VarHandle" ∧ (parseMethodDescriptor yX2_correctByGain.desc).map (fun d => d.parameters.length) = some 0 := by decide +kernel
theorem kO_X2_correctByGain : Cond.instanceMethod yX2_correctByGain ∈ T0 := T0_mem (i := 415) (by decide +kernel) (by decide +kernel)
theorem kV_X2_correctByGain : Cond.selects RX2 yX2_correctByGain yX2_correctByGain ∈ T0 := T0_mem (i := 416) (by decide +kernel) (by decide +kernel)
theorem kC_X2_blockNozzle : Cond.code yX2_blockNozzle cX2_blockNozzle 2 none ∈ T0 := T0_mem (i := 429) (by decide +kernel) (by decide +kernel)
theorem kM_RX4_113 : Cond.methodLink RX4 113 yX2_blockNozzle ∈ T0 := T0_mem (i := 426) (by decide +kernel) (by decide +kernel)
theorem hd_X2_blockNozzle : yX2_blockNozzle.cls ≠ "java/lang/invoke/MethodHandle" ∧ yX2_blockNozzle.cls ≠ "java/lang/invoke/VarHandle" ∧ (parseMethodDescriptor yX2_blockNozzle.desc).map (fun d => d.parameters.length) = some 1 := by decide +kernel
theorem kO_X2_blockNozzle : Cond.instanceMethod yX2_blockNozzle ∈ T0 := T0_mem (i := 427) (by decide +kernel) (by decide +kernel)
theorem kV_X2_blockNozzle : Cond.selects RX2 yX2_blockNozzle yX2_blockNozzle ∈ T0 := T0_mem (i := 428) (by decide +kernel) (by decide +kernel)
theorem kC_X2_blockedCount : Cond.code yX2_blockedCount cX2_blockedCount 3 (some .int) ∈ T0 := T0_mem (i := 433) (by decide +kernel) (by decide +kernel)
theorem kM_RX4_117 : Cond.methodLink RX4 117 yX2_blockedCount ∈ T0 := T0_mem (i := 430) (by decide +kernel) (by decide +kernel)
theorem hd_X2_blockedCount : yX2_blockedCount.cls ≠ "java/lang/invoke/MethodHandle" ∧ yX2_blockedCount.cls ≠ "java/lang/invoke/VarHandle" ∧ (parseMethodDescriptor yX2_blockedCount.desc).map (fun d => d.parameters.length) = some 0 := by decide +kernel
theorem kO_X2_blockedCount : Cond.instanceMethod yX2_blockedCount ∈ T0 := T0_mem (i := 431) (by decide +kernel) (by decide +kernel)
theorem kV_X2_blockedCount : Cond.selects RX2 yX2_blockedCount yX2_blockedCount ∈ T0 := T0_mem (i := 432) (by decide +kernel) (by decide +kernel)
theorem kC_X2_freeNozzles : Cond.code yX2_freeNozzles cX2_freeNozzles 2 none ∈ T0 := T0_mem (i := 449) (by decide +kernel) (by decide +kernel)
theorem kM_RX4_126 : Cond.methodLink RX4 126 yX2_freeNozzles ∈ T0 := T0_mem (i := 446) (by decide +kernel) (by decide +kernel)
theorem hd_X2_freeNozzles : yX2_freeNozzles.cls ≠ "java/lang/invoke/MethodHandle" ∧ yX2_freeNozzles.cls ≠ "java/lang/invoke/VarHandle" ∧ (parseMethodDescriptor yX2_freeNozzles.desc).map (fun d => d.parameters.length) = some 0 := by decide +kernel
theorem kO_X2_freeNozzles : Cond.instanceMethod yX2_freeNozzles ∈ T0 := T0_mem (i := 447) (by decide +kernel) (by decide +kernel)
theorem kV_X2_freeNozzles : Cond.selects RX2 yX2_freeNozzles yX2_freeNozzles ∈ T0 := T0_mem (i := 448) (by decide +kernel) (by decide +kernel)
theorem kF_RX4_129 : Cond.fieldLinkNest RX4 129 RX2 (TX2 4).2.1 (TX2 4).2.2.1 "StitchBanner" ∈ T0 := T0_mem (i := 69) (by decide +kernel) (by decide +kernel)
theorem kX_52 : ∀ w ∈ vx_atS RX4 52 "java/lang/IllegalStateException" xnm, w ∈ T0 := by decide +kernel
theorem kY_52 : ∀ w ∈ Cond.classLink RX4 48 "java/lang/IllegalStateException" :: Cond.initialized "java/lang/IllegalStateException" :: vx_atS RX4 52 "java/lang/IllegalStateException" xnm, vx_ot w = true := by decide +kernel
theorem kL_RX4_48 : Cond.classLink RX4 48 "java/lang/IllegalStateException" ∈ T0 := T0_mem (i := 198) (by decide +kernel) (by decide +kernel)
theorem kI_java_lang_IllegalStateException : Cond.initialized "java/lang/IllegalStateException" ∈ T0 := T0_mem (i := 40) (by decide +kernel) (by decide +kernel)
theorem kM_RX4_134 : Cond.methodLink RX4 134 yX2_setDose ∈ T0 := T0_mem (i := 458) (by decide +kernel) (by decide +kernel)
theorem kM_RX4_138 : Cond.methodLink RX4 138 yX2_laidInRow ∈ T0 := T0_mem (i := 463) (by decide +kernel) (by decide +kernel)
theorem kF_RX4_144 : Cond.fieldLinkNest RX4 144 RX3 (TX3 6).2.1 (TX3 6).2.2.1 "StitchBanner" ∈ T0 := T0_mem (i := 255) (by decide +kernel) (by decide +kernel)
theorem kF_RX4_149 : Cond.fieldLinkNest RX4 149 RX3 (TX3 7).2.1 (TX3 7).2.2.1 "StitchBanner" ∈ T0 := T0_mem (i := 258) (by decide +kernel) (by decide +kernel)
theorem kF_RX4_152 : Cond.fieldLinkNest RX4 152 RX3 (TX3 8).2.1 (TX3 8).2.2.1 "StitchBanner" ∈ T0 := T0_mem (i := 261) (by decide +kernel) (by decide +kernel)
theorem kC_X4_startIdlePrinters : Cond.code yX4_startIdlePrinters cX4_startIdlePrinters 3 none ∈ T0 := T0_mem (i := 499) (by decide +kernel) (by decide +kernel)
theorem kM_RX4_162 : Cond.methodLink RX4 162 yX4_startIdlePrinters ∈ T0 := T0_mem (i := 496) (by decide +kernel) (by decide +kernel)
theorem hd_X4_startIdlePrinters : yX4_startIdlePrinters.cls ≠ "java/lang/invoke/MethodHandle" ∧ yX4_startIdlePrinters.cls ≠ "java/lang/invoke/VarHandle" ∧ (parseMethodDescriptor yX4_startIdlePrinters.desc).map (fun d => d.parameters.length) = some 0 := by decide +kernel
theorem kO_X4_startIdlePrinters : Cond.instanceMethod yX4_startIdlePrinters ∈ T0 := T0_mem (i := 498) (by decide +kernel) (by decide +kernel)
theorem kV_X4_startIdlePrinters : Cond.selects RX4 yX4_startIdlePrinters yX4_startIdlePrinters ∈ T0 := T0_mem (i := 6) (by decide +kernel) (by decide +kernel)
theorem kC_X4_endTick : Cond.code yX4_endTick cX4_endTick 4 (some .int) ∈ T0 := T0_mem (i := 515) (by decide +kernel) (by decide +kernel)
theorem kM_RX4_165 : Cond.methodLink RX4 165 yX4_endTick ∈ T0 := T0_mem (i := 512) (by decide +kernel) (by decide +kernel)
theorem hd_X4_endTick : yX4_endTick.cls ≠ "java/lang/invoke/MethodHandle" ∧ yX4_endTick.cls ≠ "java/lang/invoke/VarHandle" ∧ (parseMethodDescriptor yX4_endTick.desc).map (fun d => d.parameters.length) = some 0 := by decide +kernel
theorem kO_X4_endTick : Cond.instanceMethod yX4_endTick ∈ T0 := T0_mem (i := 514) (by decide +kernel) (by decide +kernel)
theorem kV_X4_endTick : Cond.selects RX4 yX4_endTick yX4_endTick ∈ T0 := T0_mem (i := 8) (by decide +kernel) (by decide +kernel)
theorem kF_RX4_168 : Cond.fieldLinkNest RX4 168 RX2 (TX2 7).2.1 (TX2 7).2.2.1 "StitchBanner" ∈ T0 := T0_mem (i := 74) (by decide +kernel) (by decide +kernel)
theorem kF_RX4_172 : Cond.fieldLinkNest RX4 172 RX2 (TX2 8).2.1 (TX2 8).2.2.1 "StitchBanner" ∈ T0 := T0_mem (i := 76) (by decide +kernel) (by decide +kernel)
theorem kF_RX4_175 : Cond.fieldLinkNest RX4 175 RX3 (TX3 0).2.1 (TX3 0).2.2.1 "StitchBanner" ∈ T0 := T0_mem (i := 242) (by decide +kernel) (by decide +kernel)
theorem kM_RX4_180 : Cond.methodLink RX4 180 yX0_inkAt ∈ T0 := T0_mem (i := 556) (by decide +kernel) (by decide +kernel)
theorem kC_X0_spiltDots : Cond.code yX0_spiltDots cX0_spiltDots 4 (some .int) ∈ T0 := T0_mem (i := 570) (by decide +kernel) (by decide +kernel)
theorem kM_RX4_184 : Cond.methodLink RX4 184 yX0_spiltDots ∈ T0 := T0_mem (i := 567) (by decide +kernel) (by decide +kernel)
theorem hd_X0_spiltDots : yX0_spiltDots.cls ≠ "java/lang/invoke/MethodHandle" ∧ yX0_spiltDots.cls ≠ "java/lang/invoke/VarHandle" ∧ (parseMethodDescriptor yX0_spiltDots.desc).map (fun d => d.parameters.length) = some 0 := by decide +kernel
theorem kO_X0_spiltDots : Cond.instanceMethod yX0_spiltDots ∈ T0 := T0_mem (i := 568) (by decide +kernel) (by decide +kernel)
theorem kV_X0_spiltDots : Cond.selects RX0 yX0_spiltDots yX0_spiltDots ∈ T0 := T0_mem (i := 569) (by decide +kernel) (by decide +kernel)
theorem kF_RX4_187 : Cond.fieldLinkNest RX4 187 RX0 (TX0 7).2.1 (TX0 7).2.2.1 "StitchBanner" ∈ T0 := T0_mem (i := 293) (by decide +kernel) (by decide +kernel)
theorem kC_X3_wasPrinted : Cond.code yX3_wasPrinted cX3_wasPrinted 1 (some .boolean) ∈ T0 := T0_mem (i := 589) (by decide +kernel) (by decide +kernel)
theorem kM_RX4_192 : Cond.methodLink RX4 192 yX3_wasPrinted ∈ T0 := T0_mem (i := 586) (by decide +kernel) (by decide +kernel)
theorem hd_X3_wasPrinted : yX3_wasPrinted.cls ≠ "java/lang/invoke/MethodHandle" ∧ yX3_wasPrinted.cls ≠ "java/lang/invoke/VarHandle" ∧ (parseMethodDescriptor yX3_wasPrinted.desc).map (fun d => d.parameters.length) = some 0 := by decide +kernel
theorem kO_X3_wasPrinted : Cond.instanceMethod yX3_wasPrinted ∈ T0 := T0_mem (i := 587) (by decide +kernel) (by decide +kernel)
theorem kV_X3_wasPrinted : Cond.selects RX3 yX3_wasPrinted yX3_wasPrinted ∈ T0 := T0_mem (i := 588) (by decide +kernel) (by decide +kernel)
theorem kC_X0_seamError : Cond.code yX0_seamError cX0_seamError 8 (some .int) ∈ T0 := T0_mem (i := 594) (by decide +kernel) (by decide +kernel)
theorem kM_RX4_197 : Cond.methodLink RX4 197 yX0_seamError ∈ T0 := T0_mem (i := 591) (by decide +kernel) (by decide +kernel)
theorem hd_X0_seamError : yX0_seamError.cls ≠ "java/lang/invoke/MethodHandle" ∧ yX0_seamError.cls ≠ "java/lang/invoke/VarHandle" ∧ (parseMethodDescriptor yX0_seamError.desc).map (fun d => d.parameters.length) = some 2 := by decide +kernel
theorem kO_X0_seamError : Cond.instanceMethod yX0_seamError ∈ T0 := T0_mem (i := 592) (by decide +kernel) (by decide +kernel)
theorem kV_X0_seamError : Cond.selects RX0 yX0_seamError yX0_seamError ∈ T0 := T0_mem (i := 593) (by decide +kernel) (by decide +kernel)
theorem kC_X0_errorSum : Cond.code yX0_errorSum cX0_errorSum 4 (some .int) ∈ T0 := T0_mem (i := 614) (by decide +kernel) (by decide +kernel)
theorem kM_RX4_201 : Cond.methodLink RX4 201 yX0_errorSum ∈ T0 := T0_mem (i := 611) (by decide +kernel) (by decide +kernel)
theorem hd_X0_errorSum : yX0_errorSum.cls ≠ "java/lang/invoke/MethodHandle" ∧ yX0_errorSum.cls ≠ "java/lang/invoke/VarHandle" ∧ (parseMethodDescriptor yX0_errorSum.desc).map (fun d => d.parameters.length) = some 0 := by decide +kernel
theorem kO_X0_errorSum : Cond.instanceMethod yX0_errorSum ∈ T0 := T0_mem (i := 612) (by decide +kernel) (by decide +kernel)
theorem kV_X0_errorSum : Cond.selects RX0 yX0_errorSum yX0_errorSum ∈ T0 := T0_mem (i := 613) (by decide +kernel) (by decide +kernel)
set_option maxHeartbeats 4000000 in
set_option maxRecDepth 100000 in
theorem met_X4_fill (l : Launch) (hst : l.stackTraces = false) (a0 : Nat) (x1 : Int32) (x2 : Int32) (x3 : Int32) (x4 : Int32) (x5 : Int32) : TI l yX4_fill cX4_fill 7 (some .int) 6 82 1 6 [.ref a0, .int x1, .int x2, .int x3, .int x4, .int x5] (wX4_fill a0 x1 x2 x3 x4 x5) := by
  refine TI.of (by decide) (Nat.le_of_ble_eq_true rfl) ?_
  intro p e s m below meth c D cs lo S Q QX ls B hr hlk hin hxt
  intro h hl hw
  replace hl : lv_has ls 7 [(0, .ref a0), (1, .int x1), (2, .int x2), (3, .int x3), (4, .int x4), (5, .int x5)] := hl
  refine lv_aload_n B.1.1 B.1.2.1 dX4_fill_0 rfl (lv_at hl 0 rfl) ?_
  refine lv_iload_n B.1.1 B.1.2.1 dX4_fill_1 rfl (lv_at hl 1 rfl) ?_
  obtain ⟨hok, hw⟩ := hw
  refine q_callOV B h (met_X4_bannerAt l a0 x1) (CB B 1 kC_X4_bannerAt kI_RX4 kM_RX4_56 hd_X4_bannerAt ⟨Nat.le_of_ble_eq_true rfl, Nat.le_of_ble_eq_true rfl⟩) kO_X4_bannerAt kV_X4_bannerAt (ci := 4) rfl (by decide) hok.1 hok.2 (rest := []) rfl rfl hl.1 (Nat.le_of_ble_eq_true rfl) dX4_fill_2 ⟨Nat.le_of_ble_eq_true rfl, Nat.le_of_ble_eq_true rfl⟩ hw (fun o1 S1 H locs hw9 h9 => ?_)
  replace hw := hw9
  clear hw9
  replace h := h9
  clear h9
  refine q_astore (i := 6) (lv' := [(6, va_rf o1), (0, .ref a0), (1, .int x1), (2, .int x2), (3, .int x3), (4, .int x4), (5, .int x5)]) B.1.1 B.1.2.1 dX4_fill_5 hl (by decide) rfl (fun ls hl9 => ?_)
  replace hl := hl9
  clear hl9
  refine q_aload B.1.1 B.1.2.1 dX4_fill_7 (lv_at hl 0 rfl) ?_
  refine q_ifnull (tgt := 28) B.1.1 B.1.2.1 dX4_fill_9 (by decide) (fun hn => ?_) (fun q1 hn => ?_)
  · replace hw := hw.1 hn
    subst hn
    replace hl : lv_has ls 7 [(6, .null), (0, .ref a0), (1, .int x1), (2, .int x2), (3, .int x3), (4, .int x4), (5, .int x5)] := hl
    exact q_throw (E := "java/lang/IndexOutOfBoundsException") (text := "banner, row or column") (ic := 71) B h hst hxt hlk rfl (by decide +kernel) kL_RX4_67 kI_java_lang_IndexOutOfBoundsException (by decide) kX_71 kY_71 hl.1 dX4_fill_28 dX4_fill_31 dX4_fill_32 dX4_fill_34 dX4_fill_37 (Nat.le_of_ble_eq_true rfl) (Nat.le_of_ble_eq_true rfl) (Nat.le_of_ble_eq_true rfl) (Nat.le_of_ble_eq_true rfl) (Nat.le_of_ble_eq_true rfl) (Nat.le_of_ble_eq_true rfl) hw
  · replace hw := hw.2 q1 hn
    subst hn
    replace hl : lv_has ls 7 [(6, .ref q1), (0, .ref a0), (1, .int x1), (2, .int x2), (3, .int x3), (4, .int x4), (5, .int x5)] := hl
    refine lv_iload_n B.1.1 B.1.2.1 dX4_fill_12 rfl (lv_at hl 3 rfl) ?_
    refine q_callIS B h (met_X4_isRow l x2) (CB B 1 kC_X4_isRow kI_RX4 kM_RX4_60 hd_X4_isRow ⟨Nat.le_of_ble_eq_true rfl, Nat.le_of_ble_eq_true rfl⟩) kS_X4_isRow (rest := []) rfl rfl hl.1 (Nat.le_of_ble_eq_true rfl) dX4_fill_13 ⟨Nat.le_of_ble_eq_true rfl, Nat.le_of_ble_eq_true rfl⟩ hw (fun r1 S2 H locs hw9 h9 => ?_)
    replace hw := hw9
    clear hw9
    replace h := h9
    clear h9
    refine lv_if_eq (tgt := 28) B.1.1 B.1.2.1 dX4_fill_16 (by decide) (fun hc => ?_) (fun hc => ?_)
    · replace hw := hw.1 hc
      exact q_throw (E := "java/lang/IndexOutOfBoundsException") (text := "banner, row or column") (ic := 71) B h hst hxt hlk rfl (by decide +kernel) kL_RX4_67 kI_java_lang_IndexOutOfBoundsException (by decide) kX_71 kY_71 hl.1 dX4_fill_28 dX4_fill_31 dX4_fill_32 dX4_fill_34 dX4_fill_37 (Nat.le_of_ble_eq_true rfl) (Nat.le_of_ble_eq_true rfl) (Nat.le_of_ble_eq_true rfl) (Nat.le_of_ble_eq_true rfl) (Nat.le_of_ble_eq_true rfl) (Nat.le_of_ble_eq_true rfl) hw
    · replace hw := hw.2 hc
      refine lv_aload B.1.1 B.1.2.1 dX4_fill_19 (lv_at hl 0 rfl) ?_
      refine lv_iload_n B.1.1 B.1.2.1 dX4_fill_21 rfl (lv_at hl 4 rfl) ?_
      obtain ⟨hok, hw⟩ := hw
      refine q_callIV B h (met_X0_hasColumn l q1 x3) (CB B 1 kC_X0_hasColumn kI_RX0 kM_RX4_64 hd_X0_hasColumn ⟨Nat.le_of_ble_eq_true rfl, Nat.le_of_ble_eq_true rfl⟩) kO_X0_hasColumn kV_X0_hasColumn (ci := 0) rfl (by decide) hok.1 hok.2 (rest := []) rfl rfl hl.1 (Nat.le_of_ble_eq_true rfl) dX4_fill_22 ⟨Nat.le_of_ble_eq_true rfl, Nat.le_of_ble_eq_true rfl⟩ hw (fun r2 S3 H locs hw9 h9 => ?_)
      replace hw := hw9
      clear hw9
      replace h := h9
      clear h9
      refine lv_if_ne (tgt := 38) B.1.1 B.1.2.1 dX4_fill_25 (by decide) (fun hc => ?_) (fun hc => ?_)
      · replace hw := hw.1 hc
        refine lv_iload B.1.1 B.1.2.1 dX4_fill_38 (lv_at hl 5 rfl) ?_
        refine lv_iload_n B.1.1 B.1.2.1 dX4_fill_40 rfl (lv_at hl 4 rfl) ?_
        refine lv_iconst (v := (1 : Int32)) B.1.1 B.1.2.1 dX4_fill_41 (by decide) ?_
        refine lv_iadd B.1.1 B.1.2.1 dX4_fill_42 ?_
        refine lv_aload B.1.1 B.1.2.1 dX4_fill_43 (lv_at hl 0 rfl) ?_
        obtain ⟨hok, hw⟩ := hw
        refine q_getIN B h (ci := 0) (j := 0) (code := 0) rfl inT_0 (by decide) kF_RX4_72 rfl rfl rfl (by decide) dX4_fill_45 hok.1 hok.2 ?_
        refine q_callIS B h (met_X4_isWithin l x4 (x3 + (1 : Int32)) (gI S3 0 q1)) (CB B 3 kC_X4_isWithin kI_RX4 kM_RX4_29 hd_X4_isWithin ⟨Nat.le_of_ble_eq_true rfl, Nat.le_of_ble_eq_true rfl⟩) kS_X4_isWithin (rest := []) rfl rfl hl.1 (Nat.le_of_ble_eq_true rfl) dX4_fill_48 ⟨Nat.le_of_ble_eq_true rfl, Nat.le_of_ble_eq_true rfl⟩ hw (fun r3 S4 H locs hw9 h9 => ?_)
        replace hw := hw9
        clear hw9
        replace h := h9
        clear h9
        refine lv_if_ne (tgt := 64) B.1.1 B.1.2.1 dX4_fill_51 (by decide) (fun hc => ?_) (fun hc => ?_)
        · replace hw := hw.1 hc
          refine lv_iload B.1.1 B.1.2.1 dX4_fill_64 (lv_at hl 6 rfl) ?_
          refine lv_iconst (v := (0 : Int32)) B.1.1 B.1.2.1 dX4_fill_66 (by decide) ?_
          refine lv_bipush (v := (15 : Int32)) B.1.1 B.1.2.1 dX4_fill_67 (by decide) ?_
          refine q_callIS B h (met_X4_isWithin l x5 (0 : Int32) (15 : Int32)) (CB B 3 kC_X4_isWithin kI_RX4 kM_RX4_29 hd_X4_isWithin ⟨Nat.le_of_ble_eq_true rfl, Nat.le_of_ble_eq_true rfl⟩) kS_X4_isWithin (rest := []) rfl rfl hl.1 (Nat.le_of_ble_eq_true rfl) dX4_fill_69 ⟨Nat.le_of_ble_eq_true rfl, Nat.le_of_ble_eq_true rfl⟩ hw (fun r4 S5 H locs hw9 h9 => ?_)
          replace hw := hw9
          clear hw9
          replace h := h9
          clear h9
          refine lv_if_ne (tgt := 85) B.1.1 B.1.2.1 dX4_fill_72 (by decide) (fun hc => ?_) (fun hc => ?_)
          · replace hw := hw.1 hc
            refine lv_aload B.1.1 B.1.2.1 dX4_fill_85 (lv_at hl 0 rfl) ?_
            refine lv_iload_n B.1.1 B.1.2.1 dX4_fill_87 rfl (lv_at hl 3 rfl) ?_
            refine lv_iload_n B.1.1 B.1.2.1 dX4_fill_88 rfl (lv_at hl 4 rfl) ?_
            refine lv_iload B.1.1 B.1.2.1 dX4_fill_89 (lv_at hl 5 rfl) ?_
            refine lv_iload B.1.1 B.1.2.1 dX4_fill_91 (lv_at hl 6 rfl) ?_
            obtain ⟨hok, hw⟩ := hw
            refine q_callIV B h (met_X0_setLevels l q1 x2 x3 x4 x5) (CB B 4 kC_X0_setLevels kI_RX0 kM_RX4_78 hd_X0_setLevels ⟨Nat.le_of_ble_eq_true rfl, Nat.le_of_ble_eq_true rfl⟩) kO_X0_setLevels kV_X0_setLevels (ci := 0) rfl (by decide) hok.1 hok.2 (rest := []) rfl rfl hl.1 (Nat.le_of_ble_eq_true rfl) dX4_fill_93 ⟨Nat.le_of_ble_eq_true rfl, Nat.le_of_ble_eq_true rfl⟩ hw (fun r5 S6 H locs hw9 h9 => ?_)
            replace hw := hw9
            clear hw9
            replace h := h9
            clear h9
            refine vx_ret ?_; exact q_iret B hr hlk h hw dX4_fill_96 (Nat.le_of_ble_eq_true rfl) (Nat.le_of_ble_eq_true rfl)
          · replace hw := hw.2 hc
            exact q_throw (E := "java/lang/IllegalArgumentException") (text := "level") (ic := 37) B h hst hxt hlk rfl (by decide +kernel) kL_RX4_33 kI_java_lang_IllegalArgumentException (by decide) kX_37 kY_37 hl.1 dX4_fill_75 dX4_fill_78 dX4_fill_79 dX4_fill_81 dX4_fill_84 (Nat.le_of_ble_eq_true rfl) (Nat.le_of_ble_eq_true rfl) (Nat.le_of_ble_eq_true rfl) (Nat.le_of_ble_eq_true rfl) (Nat.le_of_ble_eq_true rfl) (Nat.le_of_ble_eq_true rfl) hw
        · replace hw := hw.2 hc
          exact q_throw (E := "java/lang/IllegalArgumentException") (text := "end") (ic := 37) B h hst hxt hlk rfl (by decide +kernel) kL_RX4_33 kI_java_lang_IllegalArgumentException (by decide) kX_37 kY_37 hl.1 dX4_fill_54 dX4_fill_57 dX4_fill_58 dX4_fill_60 dX4_fill_63 (Nat.le_of_ble_eq_true rfl) (Nat.le_of_ble_eq_true rfl) (Nat.le_of_ble_eq_true rfl) (Nat.le_of_ble_eq_true rfl) (Nat.le_of_ble_eq_true rfl) (Nat.le_of_ble_eq_true rfl) hw
      · replace hw := hw.2 hc
        exact q_throw (E := "java/lang/IndexOutOfBoundsException") (text := "banner, row or column") (ic := 71) B h hst hxt hlk rfl (by decide +kernel) kL_RX4_67 kI_java_lang_IndexOutOfBoundsException (by decide) kX_71 kY_71 hl.1 dX4_fill_28 dX4_fill_31 dX4_fill_32 dX4_fill_34 dX4_fill_37 (Nat.le_of_ble_eq_true rfl) (Nat.le_of_ble_eq_true rfl) (Nat.le_of_ble_eq_true rfl) (Nat.le_of_ble_eq_true rfl) (Nat.le_of_ble_eq_true rfl) (Nat.le_of_ble_eq_true rfl) hw
set_option maxHeartbeats 4000000 in
set_option maxRecDepth 100000 in
theorem met_X4_strips (l : Launch) (hst : l.stackTraces = false) (a0 : Nat) (x1 : Int32) : TI l yX4_strips cX4_strips 3 (some .int) 6 82 1 6 [.ref a0, .int x1] (wX4_strips a0 x1) := by
  refine TI.of (by decide) (Nat.le_of_ble_eq_true rfl) ?_
  intro p e s m below meth c D cs lo S Q QX ls B hr hlk hin hxt
  intro h hl hw
  replace hl : lv_has ls 3 [(0, .ref a0), (1, .int x1)] := hl
  refine lv_aload_n B.1.1 B.1.2.1 dX4_strips_0 rfl (lv_at hl 0 rfl) ?_
  refine lv_iload_n B.1.1 B.1.2.1 dX4_strips_1 rfl (lv_at hl 1 rfl) ?_
  obtain ⟨hok, hw⟩ := hw
  refine q_callOV B h (met_X4_bannerAt l a0 x1) (CB B 1 kC_X4_bannerAt kI_RX4 kM_RX4_56 hd_X4_bannerAt ⟨Nat.le_of_ble_eq_true rfl, Nat.le_of_ble_eq_true rfl⟩) kO_X4_bannerAt kV_X4_bannerAt (ci := 4) rfl (by decide) hok.1 hok.2 (rest := []) rfl rfl hl.1 (Nat.le_of_ble_eq_true rfl) dX4_strips_2 ⟨Nat.le_of_ble_eq_true rfl, Nat.le_of_ble_eq_true rfl⟩ hw (fun o1 S1 H locs hw9 h9 => ?_)
  replace hw := hw9
  clear hw9
  replace h := h9
  clear h9
  refine q_astore_n (i := 2) (lv' := [(2, va_rf o1), (0, .ref a0), (1, .int x1)]) B.1.1 B.1.2.1 dX4_strips_5 rfl hl (by decide) rfl (fun ls hl9 => ?_)
  replace hl := hl9
  clear hl9
  refine q_aload_n B.1.1 B.1.2.1 dX4_strips_6 rfl (lv_at hl 0 rfl) ?_
  refine q_ifnonnull (tgt := 20) B.1.1 B.1.2.1 dX4_strips_7 (by decide) (fun hn => ?_) (fun q1 hn => ?_)
  · replace hw := hw.1 hn
    subst hn
    replace hl : lv_has ls 3 [(2, .null), (0, .ref a0), (1, .int x1)] := hl
    exact q_throw (E := "java/lang/IndexOutOfBoundsException") (text := "banner") (ic := 71) B h hst hxt hlk rfl (by decide +kernel) kL_RX4_67 kI_java_lang_IndexOutOfBoundsException (by decide) kX_71 kY_71 hl.1 dX4_strips_10 dX4_strips_13 dX4_strips_14 dX4_strips_16 dX4_strips_19 (Nat.le_of_ble_eq_true rfl) (Nat.le_of_ble_eq_true rfl) (Nat.le_of_ble_eq_true rfl) (Nat.le_of_ble_eq_true rfl) (Nat.le_of_ble_eq_true rfl) (Nat.le_of_ble_eq_true rfl) hw
  · replace hw := hw.2 q1 hn
    subst hn
    replace hl : lv_has ls 3 [(2, .ref q1), (0, .ref a0), (1, .int x1)] := hl
    refine lv_aload_n B.1.1 B.1.2.1 dX4_strips_20 rfl (lv_at hl 0 rfl) ?_
    obtain ⟨hok, hw⟩ := hw
    refine q_getIN B h (ci := 0) (j := 6) (code := 6) rfl inT_0 (by decide) kF_RX4_84 rfl rfl rfl (by decide) dX4_strips_21 hok.1 hok.2 ?_
    refine vx_ret ?_; exact q_iret B hr hlk h hw dX4_strips_24 (Nat.le_of_ble_eq_true rfl) (Nat.le_of_ble_eq_true rfl)
set_option maxHeartbeats 4000000 in
set_option maxRecDepth 100000 in
theorem met_X4_toLay (l : Launch) (hst : l.stackTraces = false) (a0 : Nat) (x1 : Int32) (x2 : Int32) (x3 : Int32) (x4 : Int32) : TI l yX4_toLay cX4_toLay 7 (some .int) 6 82 1 6 [.ref a0, .int x1, .int x2, .int x3, .int x4] (wX4_toLay a0 x1 x2 x3 x4) := by
  refine TI.of (by decide) (Nat.le_of_ble_eq_true rfl) ?_
  intro p e s m below meth c D cs lo S Q QX ls B hr hlk hin hxt
  intro h hl hw
  replace hl : lv_has ls 7 [(0, .ref a0), (1, .int x1), (2, .int x2), (3, .int x3), (4, .int x4)] := hl
  refine lv_aload_n B.1.1 B.1.2.1 dX4_toLay_0 rfl (lv_at hl 0 rfl) ?_
  refine lv_iload_n B.1.1 B.1.2.1 dX4_toLay_1 rfl (lv_at hl 1 rfl) ?_
  obtain ⟨hok, hw⟩ := hw
  refine q_callOV B h (met_X4_bannerAt l a0 x1) (CB B 1 kC_X4_bannerAt kI_RX4 kM_RX4_56 hd_X4_bannerAt ⟨Nat.le_of_ble_eq_true rfl, Nat.le_of_ble_eq_true rfl⟩) kO_X4_bannerAt kV_X4_bannerAt (ci := 4) rfl (by decide) hok.1 hok.2 (rest := []) rfl rfl hl.1 (Nat.le_of_ble_eq_true rfl) dX4_toLay_2 ⟨Nat.le_of_ble_eq_true rfl, Nat.le_of_ble_eq_true rfl⟩ hw (fun o1 S1 H locs hw9 h9 => ?_)
  replace hw := hw9
  clear hw9
  replace h := h9
  clear h9
  refine q_astore (i := 5) (lv' := [(5, va_rf o1), (0, .ref a0), (1, .int x1), (2, .int x2), (3, .int x3), (4, .int x4)]) B.1.1 B.1.2.1 dX4_toLay_5 hl (by decide) rfl (fun ls hl9 => ?_)
  replace hl := hl9
  clear hl9
  refine q_aload B.1.1 B.1.2.1 dX4_toLay_7 (lv_at hl 0 rfl) ?_
  refine lv_iload_n B.1.1 B.1.2.1 dX4_toLay_9 rfl (lv_at hl 3 rfl) ?_
  refine q_callOS B h (met_X4_stripAt l o1 x2) (CB B 2 kC_X4_stripAt kI_RX4 kM_RX4_87 hd_X4_stripAt ⟨Nat.le_of_ble_eq_true rfl, Nat.le_of_ble_eq_true rfl⟩) kS_X4_stripAt (rest := []) rfl rfl hl.1 (Nat.le_of_ble_eq_true rfl) dX4_toLay_10 ⟨Nat.le_of_ble_eq_true rfl, Nat.le_of_ble_eq_true rfl⟩ hw (fun o2 S2 H locs hw9 h9 => ?_)
  replace hw := hw9
  clear hw9
  replace h := h9
  clear h9
  refine q_astore (i := 6) (lv' := [(6, va_rf o2), (5, va_rf o1), (0, .ref a0), (1, .int x1), (2, .int x2), (3, .int x3), (4, .int x4)]) B.1.1 B.1.2.1 dX4_toLay_13 hl (by decide) (by simp [List.filter, rf_cat, cat_i, cat_r, cat_n]) (fun ls hl9 => ?_)
  replace hl := hl9
  clear hl9
  refine q_aload B.1.1 B.1.2.1 dX4_toLay_15 (lv_at hl 1 rfl) ?_
  refine q_ifnull (tgt := 42) B.1.1 B.1.2.1 dX4_toLay_17 (by decide) (fun hn => ?_) (fun q1 hn => ?_)
  · replace hw := hw.1 hn
    subst hn
    replace hl : lv_has ls 7 [(6, va_rf o2), (5, .null), (0, .ref a0), (1, .int x1), (2, .int x2), (3, .int x3), (4, .int x4)] := hl
    exact q_throw (E := "java/lang/IndexOutOfBoundsException") (text := "banner, strip, row or column") (ic := 71) B h hst hxt hlk rfl (by decide +kernel) kL_RX4_67 kI_java_lang_IndexOutOfBoundsException (by decide) kX_71 kY_71 hl.1 dX4_toLay_42 dX4_toLay_45 dX4_toLay_46 dX4_toLay_48 dX4_toLay_51 (Nat.le_of_ble_eq_true rfl) (Nat.le_of_ble_eq_true rfl) (Nat.le_of_ble_eq_true rfl) (Nat.le_of_ble_eq_true rfl) (Nat.le_of_ble_eq_true rfl) (Nat.le_of_ble_eq_true rfl) hw
  · replace hw := hw.2 q1 hn
    subst hn
    replace hl : lv_has ls 7 [(6, va_rf o2), (5, .ref q1), (0, .ref a0), (1, .int x1), (2, .int x2), (3, .int x3), (4, .int x4)] := hl
    refine q_aload B.1.1 B.1.2.1 dX4_toLay_20 (lv_at hl 0 rfl) ?_
    refine q_ifnull (tgt := 42) B.1.1 B.1.2.1 dX4_toLay_22 (by decide) (fun hn => ?_) (fun q2 hn => ?_)
    · replace hw := hw.1 hn
      subst hn
      replace hl : lv_has ls 7 [(6, .null), (5, .ref q1), (0, .ref a0), (1, .int x1), (2, .int x2), (3, .int x3), (4, .int x4)] := hl
      exact q_throw (E := "java/lang/IndexOutOfBoundsException") (text := "banner, strip, row or column") (ic := 71) B h hst hxt hlk rfl (by decide +kernel) kL_RX4_67 kI_java_lang_IndexOutOfBoundsException (by decide) kX_71 kY_71 hl.1 dX4_toLay_42 dX4_toLay_45 dX4_toLay_46 dX4_toLay_48 dX4_toLay_51 (Nat.le_of_ble_eq_true rfl) (Nat.le_of_ble_eq_true rfl) (Nat.le_of_ble_eq_true rfl) (Nat.le_of_ble_eq_true rfl) (Nat.le_of_ble_eq_true rfl) (Nat.le_of_ble_eq_true rfl) hw
    · replace hw := hw.2 q2 hn
      subst hn
      replace hl : lv_has ls 7 [(6, .ref q2), (5, .ref q1), (0, .ref a0), (1, .int x1), (2, .int x2), (3, .int x3), (4, .int x4)] := hl
      refine lv_iload_n B.1.1 B.1.2.1 dX4_toLay_25 rfl (lv_at hl 5 rfl) ?_
      refine q_callIS B h (met_X4_isRow l x3) (CB B 1 kC_X4_isRow kI_RX4 kM_RX4_60 hd_X4_isRow ⟨Nat.le_of_ble_eq_true rfl, Nat.le_of_ble_eq_true rfl⟩) kS_X4_isRow (rest := []) rfl rfl hl.1 (Nat.le_of_ble_eq_true rfl) dX4_toLay_26 ⟨Nat.le_of_ble_eq_true rfl, Nat.le_of_ble_eq_true rfl⟩ hw (fun r1 S3 H locs hw9 h9 => ?_)
      replace hw := hw9
      clear hw9
      replace h := h9
      clear h9
      refine lv_if_eq (tgt := 42) B.1.1 B.1.2.1 dX4_toLay_29 (by decide) (fun hc => ?_) (fun hc => ?_)
      · replace hw := hw.1 hc
        exact q_throw (E := "java/lang/IndexOutOfBoundsException") (text := "banner, strip, row or column") (ic := 71) B h hst hxt hlk rfl (by decide +kernel) kL_RX4_67 kI_java_lang_IndexOutOfBoundsException (by decide) kX_71 kY_71 hl.1 dX4_toLay_42 dX4_toLay_45 dX4_toLay_46 dX4_toLay_48 dX4_toLay_51 (Nat.le_of_ble_eq_true rfl) (Nat.le_of_ble_eq_true rfl) (Nat.le_of_ble_eq_true rfl) (Nat.le_of_ble_eq_true rfl) (Nat.le_of_ble_eq_true rfl) (Nat.le_of_ble_eq_true rfl) hw
      · replace hw := hw.2 hc
        refine lv_aload B.1.1 B.1.2.1 dX4_toLay_32 (lv_at hl 1 rfl) ?_
        refine lv_iload B.1.1 B.1.2.1 dX4_toLay_34 (lv_at hl 6 rfl) ?_
        obtain ⟨hok, hw⟩ := hw
        refine q_callIV B h (met_X0_hasColumn l q1 x4) (CB B 1 kC_X0_hasColumn kI_RX0 kM_RX4_64 hd_X0_hasColumn ⟨Nat.le_of_ble_eq_true rfl, Nat.le_of_ble_eq_true rfl⟩) kO_X0_hasColumn kV_X0_hasColumn (ci := 0) rfl (by decide) hok.1 hok.2 (rest := []) rfl rfl hl.1 (Nat.le_of_ble_eq_true rfl) dX4_toLay_36 ⟨Nat.le_of_ble_eq_true rfl, Nat.le_of_ble_eq_true rfl⟩ hw (fun r2 S4 H locs hw9 h9 => ?_)
        replace hw := hw9
        clear hw9
        replace h := h9
        clear h9
        refine lv_if_ne (tgt := 52) B.1.1 B.1.2.1 dX4_toLay_39 (by decide) (fun hc => ?_) (fun hc => ?_)
        · replace hw := hw.1 hc
          refine lv_aload B.1.1 B.1.2.1 dX4_toLay_52 (lv_at hl 1 rfl) ?_
          refine lv_aload B.1.1 B.1.2.1 dX4_toLay_54 (lv_at hl 0 rfl) ?_
          refine lv_iload_n B.1.1 B.1.2.1 dX4_toLay_56 rfl (lv_at hl 5 rfl) ?_
          refine lv_iload B.1.1 B.1.2.1 dX4_toLay_57 (lv_at hl 6 rfl) ?_
          obtain ⟨hok, hw⟩ := hw
          refine q_callIV B h (met_X0_share l q1 (some q2) x3 x4) (CB B 3 kC_X0_share kI_RX0 kM_RX4_93 hd_X0_share ⟨Nat.le_of_ble_eq_true rfl, Nat.le_of_ble_eq_true rfl⟩) kO_X0_share kV_X0_share (ci := 0) rfl (by decide) hok.1 hok.2 (rest := []) rfl rfl hl.1 (Nat.le_of_ble_eq_true rfl) dX4_toLay_59 ⟨Nat.le_of_ble_eq_true rfl, Nat.le_of_ble_eq_true rfl⟩ hw (fun r3 S5 H locs hw9 h9 => ?_)
          replace hw := hw9
          clear hw9
          replace h := h9
          clear h9
          refine vx_ret ?_; exact q_iret B hr hlk h hw dX4_toLay_62 (Nat.le_of_ble_eq_true rfl) (Nat.le_of_ble_eq_true rfl)
        · replace hw := hw.2 hc
          exact q_throw (E := "java/lang/IndexOutOfBoundsException") (text := "banner, strip, row or column") (ic := 71) B h hst hxt hlk rfl (by decide +kernel) kL_RX4_67 kI_java_lang_IndexOutOfBoundsException (by decide) kX_71 kY_71 hl.1 dX4_toLay_42 dX4_toLay_45 dX4_toLay_46 dX4_toLay_48 dX4_toLay_51 (Nat.le_of_ble_eq_true rfl) (Nat.le_of_ble_eq_true rfl) (Nat.le_of_ble_eq_true rfl) (Nat.le_of_ble_eq_true rfl) (Nat.le_of_ble_eq_true rfl) (Nat.le_of_ble_eq_true rfl) hw
set_option maxHeartbeats 4000000 in
set_option maxRecDepth 100000 in
theorem met_X4_setGain (l : Launch) (hst : l.stackTraces = false) (a0 : Nat) (x1 : Int32) (x2 : Int32) : TI l yX4_setGain cX4_setGain 5 (some .int) 6 82 1 6 [.ref a0, .int x1, .int x2] (wX4_setGain a0 x1 x2) := by
  refine TI.of (by decide) (Nat.le_of_ble_eq_true rfl) ?_
  intro p e s m below meth c D cs lo S Q QX ls B hr hlk hin hxt
  intro h hl hw
  replace hl : lv_has ls 5 [(0, .ref a0), (1, .int x1), (2, .int x2)] := hl
  refine lv_aload_n B.1.1 B.1.2.1 dX4_setGain_0 rfl (lv_at hl 0 rfl) ?_
  refine lv_iload_n B.1.1 B.1.2.1 dX4_setGain_1 rfl (lv_at hl 1 rfl) ?_
  obtain ⟨hok, hw⟩ := hw
  refine q_callOV B h (met_X4_printerAt l a0 x1) (CB B 1 kC_X4_printerAt kI_RX4 kM_RX4_97 hd_X4_printerAt ⟨Nat.le_of_ble_eq_true rfl, Nat.le_of_ble_eq_true rfl⟩) kO_X4_printerAt kV_X4_printerAt (ci := 4) rfl (by decide) hok.1 hok.2 (rest := []) rfl rfl hl.1 (Nat.le_of_ble_eq_true rfl) dX4_setGain_2 ⟨Nat.le_of_ble_eq_true rfl, Nat.le_of_ble_eq_true rfl⟩ hw (fun o1 S1 H locs hw9 h9 => ?_)
  replace hw := hw9
  clear hw9
  replace h := h9
  clear h9
  refine q_astore_n (i := 3) (lv' := [(3, va_rf o1), (0, .ref a0), (1, .int x1), (2, .int x2)]) B.1.1 B.1.2.1 dX4_setGain_5 rfl hl (by decide) rfl (fun ls hl9 => ?_)
  replace hl := hl9
  clear hl9
  refine q_aload_n B.1.1 B.1.2.1 dX4_setGain_6 rfl (lv_at hl 0 rfl) ?_
  refine q_ifnonnull (tgt := 20) B.1.1 B.1.2.1 dX4_setGain_7 (by decide) (fun hn => ?_) (fun q1 hn => ?_)
  · replace hw := hw.1 hn
    subst hn
    replace hl : lv_has ls 5 [(3, .null), (0, .ref a0), (1, .int x1), (2, .int x2)] := hl
    exact q_throw (E := "java/lang/IndexOutOfBoundsException") (text := "printer") (ic := 71) B h hst hxt hlk rfl (by decide +kernel) kL_RX4_67 kI_java_lang_IndexOutOfBoundsException (by decide) kX_71 kY_71 hl.1 dX4_setGain_10 dX4_setGain_13 dX4_setGain_14 dX4_setGain_16 dX4_setGain_19 (Nat.le_of_ble_eq_true rfl) (Nat.le_of_ble_eq_true rfl) (Nat.le_of_ble_eq_true rfl) (Nat.le_of_ble_eq_true rfl) (Nat.le_of_ble_eq_true rfl) (Nat.le_of_ble_eq_true rfl) hw
  · replace hw := hw.2 q1 hn
    subst hn
    replace hl : lv_has ls 5 [(3, .ref q1), (0, .ref a0), (1, .int x1), (2, .int x2)] := hl
    refine lv_iload_n B.1.1 B.1.2.1 dX4_setGain_20 rfl (lv_at hl 3 rfl) ?_
    refine lv_bipush (v := (50 : Int32)) B.1.1 B.1.2.1 dX4_setGain_21 (by decide) ?_
    refine lv_sipush (v := (200 : Int32)) B.1.1 B.1.2.1 dX4_setGain_23 (by decide) ?_
    refine q_callIS B h (met_X4_isWithin l x2 (50 : Int32) (200 : Int32)) (CB B 3 kC_X4_isWithin kI_RX4 kM_RX4_29 hd_X4_isWithin ⟨Nat.le_of_ble_eq_true rfl, Nat.le_of_ble_eq_true rfl⟩) kS_X4_isWithin (rest := []) rfl rfl hl.1 (Nat.le_of_ble_eq_true rfl) dX4_setGain_26 ⟨Nat.le_of_ble_eq_true rfl, Nat.le_of_ble_eq_true rfl⟩ hw (fun r1 S2 H locs hw9 h9 => ?_)
    replace hw := hw9
    clear hw9
    replace h := h9
    clear h9
    refine lv_if_ne (tgt := 42) B.1.1 B.1.2.1 dX4_setGain_29 (by decide) (fun hc => ?_) (fun hc => ?_)
    · replace hw := hw.1 hc
      refine lv_aload_n B.1.1 B.1.2.1 dX4_setGain_42 rfl (lv_at hl 0 rfl) ?_
      obtain ⟨hok, hw⟩ := hw
      refine q_getIN B h (ci := 2) (j := 0) (code := 64) rfl inT_2 (by decide) kF_RX4_105 rfl rfl rfl (by decide) dX4_setGain_43 hok.1 hok.2 ?_
      refine lv_istore (i := 4) (lv' := [(4, .int (gI S2 64 q1)), (3, .ref q1), (0, .ref a0), (1, .int x1), (2, .int x2)]) B.1.1 B.1.2.1 dX4_setGain_46 hl (by decide) rfl (fun ls hl9 => ?_)
      replace hl := hl9
      clear hl9
      refine lv_aload_n B.1.1 B.1.2.1 dX4_setGain_48 rfl (lv_at hl 1 rfl) ?_
      refine lv_iload_n B.1.1 B.1.2.1 dX4_setGain_49 rfl (lv_at hl 4 rfl) ?_
      obtain ⟨hok, hw⟩ := hw
      refine q_putIN B h (ci := 2) (j := 0) (code := 64) (v := x2) rfl inT_2 tyX2 tyX2_ok nmX2 (by decide) kF_RX4_105 rfl rfl rfl rfl (by decide) (by first | rfl | decide) (by first | rfl | decide) dX4_setGain_50 hok.1 hok.2 (fun H locs h9 => ?_)
      obtain ⟨S3, hS3, hh⟩ : ∃ z, z = sI S2 64 q1 x2 ∧ Hx D cs lo s z H _ := ⟨_, rfl, h9⟩
      clear h9
      replace h := hh
      clear hh
      replace hw := hw S3 hS3
      refine lv_iload B.1.1 B.1.2.1 dX4_setGain_53 (lv_at hl 0 rfl) ?_
      refine vx_ret ?_; exact q_iret B hr hlk h hw dX4_setGain_55 (Nat.le_of_ble_eq_true rfl) (Nat.le_of_ble_eq_true rfl)
    · replace hw := hw.2 hc
      exact q_throw (E := "java/lang/IllegalArgumentException") (text := "gain") (ic := 37) B h hst hxt hlk rfl (by decide +kernel) kL_RX4_33 kI_java_lang_IllegalArgumentException (by decide) kX_37 kY_37 hl.1 dX4_setGain_32 dX4_setGain_35 dX4_setGain_36 dX4_setGain_38 dX4_setGain_41 (Nat.le_of_ble_eq_true rfl) (Nat.le_of_ble_eq_true rfl) (Nat.le_of_ble_eq_true rfl) (Nat.le_of_ble_eq_true rfl) (Nat.le_of_ble_eq_true rfl) (Nat.le_of_ble_eq_true rfl) hw
set_option maxHeartbeats 4000000 in
set_option maxRecDepth 100000 in
theorem met_X4_match (l : Launch) (hst : l.stackTraces = false) (a0 : Nat) (x1 : Int32) : TI l yX4_match cX4_match 3 (some .int) 6 82 1 6 [.ref a0, .int x1] (wX4_match a0 x1) := by
  refine TI.of (by decide) (Nat.le_of_ble_eq_true rfl) ?_
  intro p e s m below meth c D cs lo S Q QX ls B hr hlk hin hxt
  intro h hl hw
  replace hl : lv_has ls 3 [(0, .ref a0), (1, .int x1)] := hl
  refine lv_aload_n B.1.1 B.1.2.1 dX4_match_0 rfl (lv_at hl 0 rfl) ?_
  refine lv_iload_n B.1.1 B.1.2.1 dX4_match_1 rfl (lv_at hl 1 rfl) ?_
  obtain ⟨hok, hw⟩ := hw
  refine q_callOV B h (met_X4_printerAt l a0 x1) (CB B 1 kC_X4_printerAt kI_RX4 kM_RX4_97 hd_X4_printerAt ⟨Nat.le_of_ble_eq_true rfl, Nat.le_of_ble_eq_true rfl⟩) kO_X4_printerAt kV_X4_printerAt (ci := 4) rfl (by decide) hok.1 hok.2 (rest := []) rfl rfl hl.1 (Nat.le_of_ble_eq_true rfl) dX4_match_2 ⟨Nat.le_of_ble_eq_true rfl, Nat.le_of_ble_eq_true rfl⟩ hw (fun o1 S1 H locs hw9 h9 => ?_)
  replace hw := hw9
  clear hw9
  replace h := h9
  clear h9
  refine q_astore_n (i := 2) (lv' := [(2, va_rf o1), (0, .ref a0), (1, .int x1)]) B.1.1 B.1.2.1 dX4_match_5 rfl hl (by decide) rfl (fun ls hl9 => ?_)
  replace hl := hl9
  clear hl9
  refine q_aload_n B.1.1 B.1.2.1 dX4_match_6 rfl (lv_at hl 0 rfl) ?_
  refine q_ifnonnull (tgt := 20) B.1.1 B.1.2.1 dX4_match_7 (by decide) (fun hn => ?_) (fun q1 hn => ?_)
  · replace hw := hw.1 hn
    subst hn
    replace hl : lv_has ls 3 [(2, .null), (0, .ref a0), (1, .int x1)] := hl
    exact q_throw (E := "java/lang/IndexOutOfBoundsException") (text := "printer") (ic := 71) B h hst hxt hlk rfl (by decide +kernel) kL_RX4_67 kI_java_lang_IndexOutOfBoundsException (by decide) kX_71 kY_71 hl.1 dX4_match_10 dX4_match_13 dX4_match_14 dX4_match_16 dX4_match_19 (Nat.le_of_ble_eq_true rfl) (Nat.le_of_ble_eq_true rfl) (Nat.le_of_ble_eq_true rfl) (Nat.le_of_ble_eq_true rfl) (Nat.le_of_ble_eq_true rfl) (Nat.le_of_ble_eq_true rfl) hw
  · replace hw := hw.2 q1 hn
    subst hn
    replace hl : lv_has ls 3 [(2, .ref q1), (0, .ref a0), (1, .int x1)] := hl
    refine lv_aload_n B.1.1 B.1.2.1 dX4_match_20 rfl (lv_at hl 0 rfl) ?_
    obtain ⟨hok, hw⟩ := hw
    refine q_callIV B h (met_X2_correctByGain l q1) (CB B 0 kC_X2_correctByGain kI_RX2 kM_RX4_107 hd_X2_correctByGain ⟨Nat.le_of_ble_eq_true rfl, Nat.le_of_ble_eq_true rfl⟩) kO_X2_correctByGain kV_X2_correctByGain (ci := 2) rfl (by decide) hok.1 hok.2 (rest := []) rfl rfl hl.1 (Nat.le_of_ble_eq_true rfl) dX4_match_21 ⟨Nat.le_of_ble_eq_true rfl, Nat.le_of_ble_eq_true rfl⟩ hw (fun r1 S2 H locs hw9 h9 => ?_)
    replace hw := hw9
    clear hw9
    replace h := h9
    clear h9
    refine vx_ret ?_; exact q_iret B hr hlk h hw dX4_match_24 (Nat.le_of_ble_eq_true rfl) (Nat.le_of_ble_eq_true rfl)
set_option maxHeartbeats 4000000 in
set_option maxRecDepth 100000 in
theorem met_X4_block (l : Launch) (hst : l.stackTraces = false) (a0 : Nat) (x1 : Int32) (x2 : Int32) : TI l yX4_block cX4_block 4 (some .int) 6 82 1 6 [.ref a0, .int x1, .int x2] (wX4_block a0 x1 x2) := by
  refine TI.of (by decide) (Nat.le_of_ble_eq_true rfl) ?_
  intro p e s m below meth c D cs lo S Q QX ls B hr hlk hin hxt
  intro h hl hw
  replace hl : lv_has ls 4 [(0, .ref a0), (1, .int x1), (2, .int x2)] := hl
  refine lv_aload_n B.1.1 B.1.2.1 dX4_block_0 rfl (lv_at hl 0 rfl) ?_
  refine lv_iload_n B.1.1 B.1.2.1 dX4_block_1 rfl (lv_at hl 1 rfl) ?_
  obtain ⟨hok, hw⟩ := hw
  refine q_callOV B h (met_X4_printerAt l a0 x1) (CB B 1 kC_X4_printerAt kI_RX4 kM_RX4_97 hd_X4_printerAt ⟨Nat.le_of_ble_eq_true rfl, Nat.le_of_ble_eq_true rfl⟩) kO_X4_printerAt kV_X4_printerAt (ci := 4) rfl (by decide) hok.1 hok.2 (rest := []) rfl rfl hl.1 (Nat.le_of_ble_eq_true rfl) dX4_block_2 ⟨Nat.le_of_ble_eq_true rfl, Nat.le_of_ble_eq_true rfl⟩ hw (fun o1 S1 H locs hw9 h9 => ?_)
  replace hw := hw9
  clear hw9
  replace h := h9
  clear h9
  refine q_astore_n (i := 3) (lv' := [(3, va_rf o1), (0, .ref a0), (1, .int x1), (2, .int x2)]) B.1.1 B.1.2.1 dX4_block_5 rfl hl (by decide) rfl (fun ls hl9 => ?_)
  replace hl := hl9
  clear hl9
  refine q_aload_n B.1.1 B.1.2.1 dX4_block_6 rfl (lv_at hl 0 rfl) ?_
  refine q_ifnull (tgt := 17) B.1.1 B.1.2.1 dX4_block_7 (by decide) (fun hn => ?_) (fun q1 hn => ?_)
  · replace hw := hw.1 hn
    subst hn
    replace hl : lv_has ls 4 [(3, .null), (0, .ref a0), (1, .int x1), (2, .int x2)] := hl
    exact q_throw (E := "java/lang/IndexOutOfBoundsException") (text := "printer or nozzle") (ic := 71) B h hst hxt hlk rfl (by decide +kernel) kL_RX4_67 kI_java_lang_IndexOutOfBoundsException (by decide) kX_71 kY_71 hl.1 dX4_block_17 dX4_block_20 dX4_block_21 dX4_block_23 dX4_block_26 (Nat.le_of_ble_eq_true rfl) (Nat.le_of_ble_eq_true rfl) (Nat.le_of_ble_eq_true rfl) (Nat.le_of_ble_eq_true rfl) (Nat.le_of_ble_eq_true rfl) (Nat.le_of_ble_eq_true rfl) hw
  · replace hw := hw.2 q1 hn
    subst hn
    replace hl : lv_has ls 4 [(3, .ref q1), (0, .ref a0), (1, .int x1), (2, .int x2)] := hl
    refine lv_iload_n B.1.1 B.1.2.1 dX4_block_10 rfl (lv_at hl 3 rfl) ?_
    refine q_callIS B h (met_X4_isRow l x2) (CB B 1 kC_X4_isRow kI_RX4 kM_RX4_60 hd_X4_isRow ⟨Nat.le_of_ble_eq_true rfl, Nat.le_of_ble_eq_true rfl⟩) kS_X4_isRow (rest := []) rfl rfl hl.1 (Nat.le_of_ble_eq_true rfl) dX4_block_11 ⟨Nat.le_of_ble_eq_true rfl, Nat.le_of_ble_eq_true rfl⟩ hw (fun r1 S2 H locs hw9 h9 => ?_)
    replace hw := hw9
    clear hw9
    replace h := h9
    clear h9
    refine lv_if_ne (tgt := 27) B.1.1 B.1.2.1 dX4_block_14 (by decide) (fun hc => ?_) (fun hc => ?_)
    · replace hw := hw.1 hc
      refine lv_aload_n B.1.1 B.1.2.1 dX4_block_27 rfl (lv_at hl 0 rfl) ?_
      refine lv_iload_n B.1.1 B.1.2.1 dX4_block_28 rfl (lv_at hl 3 rfl) ?_
      obtain ⟨hok, hw⟩ := hw
      refine q_callVV B h (met_X2_blockNozzle l q1 x2) (CB B 1 kC_X2_blockNozzle kI_RX2 kM_RX4_113 hd_X2_blockNozzle ⟨Nat.le_of_ble_eq_true rfl, Nat.le_of_ble_eq_true rfl⟩) kO_X2_blockNozzle kV_X2_blockNozzle (ci := 2) rfl (by decide) hok.1 hok.2 (rest := []) rfl rfl hl.1 (Nat.le_of_ble_eq_true rfl) dX4_block_29 ⟨Nat.le_of_ble_eq_true rfl, Nat.le_of_ble_eq_true rfl⟩ hw (fun S3 H locs hw9 h9 => ?_)
      replace hw := hw9
      clear hw9
      replace h := h9
      clear h9
      refine lv_aload_n B.1.1 B.1.2.1 dX4_block_32 rfl (lv_at hl 0 rfl) ?_
      obtain ⟨hok, hw⟩ := hw
      refine q_callIV B h (met_X2_blockedCount l q1) (CB B 0 kC_X2_blockedCount kI_RX2 kM_RX4_117 hd_X2_blockedCount ⟨Nat.le_of_ble_eq_true rfl, Nat.le_of_ble_eq_true rfl⟩) kO_X2_blockedCount kV_X2_blockedCount (ci := 2) rfl (by decide) hok.1 hok.2 (rest := []) rfl rfl hl.1 (Nat.le_of_ble_eq_true rfl) dX4_block_33 ⟨Nat.le_of_ble_eq_true rfl, Nat.le_of_ble_eq_true rfl⟩ hw (fun r2 S4 H locs hw9 h9 => ?_)
      replace hw := hw9
      clear hw9
      replace h := h9
      clear h9
      refine vx_ret ?_; exact q_iret B hr hlk h hw dX4_block_36 (Nat.le_of_ble_eq_true rfl) (Nat.le_of_ble_eq_true rfl)
    · replace hw := hw.2 hc
      exact q_throw (E := "java/lang/IndexOutOfBoundsException") (text := "printer or nozzle") (ic := 71) B h hst hxt hlk rfl (by decide +kernel) kL_RX4_67 kI_java_lang_IndexOutOfBoundsException (by decide) kX_71 kY_71 hl.1 dX4_block_17 dX4_block_20 dX4_block_21 dX4_block_23 dX4_block_26 (Nat.le_of_ble_eq_true rfl) (Nat.le_of_ble_eq_true rfl) (Nat.le_of_ble_eq_true rfl) (Nat.le_of_ble_eq_true rfl) (Nat.le_of_ble_eq_true rfl) (Nat.le_of_ble_eq_true rfl) hw
set_option maxHeartbeats 4000000 in
set_option maxRecDepth 100000 in
theorem met_X4_clean (l : Launch) (hst : l.stackTraces = false) (a0 : Nat) (x1 : Int32) : TI l yX4_clean cX4_clean 4 (some .int) 6 82 1 6 [.ref a0, .int x1] (wX4_clean a0 x1) := by
  refine TI.of (by decide) (Nat.le_of_ble_eq_true rfl) ?_
  intro p e s m below meth c D cs lo S Q QX ls B hr hlk hin hxt
  intro h hl hw
  replace hl : lv_has ls 4 [(0, .ref a0), (1, .int x1)] := hl
  refine lv_aload_n B.1.1 B.1.2.1 dX4_clean_0 rfl (lv_at hl 0 rfl) ?_
  refine lv_iload_n B.1.1 B.1.2.1 dX4_clean_1 rfl (lv_at hl 1 rfl) ?_
  obtain ⟨hok, hw⟩ := hw
  refine q_callOV B h (met_X4_printerAt l a0 x1) (CB B 1 kC_X4_printerAt kI_RX4 kM_RX4_97 hd_X4_printerAt ⟨Nat.le_of_ble_eq_true rfl, Nat.le_of_ble_eq_true rfl⟩) kO_X4_printerAt kV_X4_printerAt (ci := 4) rfl (by decide) hok.1 hok.2 (rest := []) rfl rfl hl.1 (Nat.le_of_ble_eq_true rfl) dX4_clean_2 ⟨Nat.le_of_ble_eq_true rfl, Nat.le_of_ble_eq_true rfl⟩ hw (fun o1 S1 H locs hw9 h9 => ?_)
  replace hw := hw9
  clear hw9
  replace h := h9
  clear h9
  refine q_astore_n (i := 2) (lv' := [(2, va_rf o1), (0, .ref a0), (1, .int x1)]) B.1.1 B.1.2.1 dX4_clean_5 rfl hl (by decide) rfl (fun ls hl9 => ?_)
  replace hl := hl9
  clear hl9
  refine q_aload_n B.1.1 B.1.2.1 dX4_clean_6 rfl (lv_at hl 0 rfl) ?_
  refine q_ifnonnull (tgt := 20) B.1.1 B.1.2.1 dX4_clean_7 (by decide) (fun hn => ?_) (fun q1 hn => ?_)
  · replace hw := hw.1 hn
    subst hn
    replace hl : lv_has ls 4 [(2, .null), (0, .ref a0), (1, .int x1)] := hl
    exact q_throw (E := "java/lang/IndexOutOfBoundsException") (text := "printer") (ic := 71) B h hst hxt hlk rfl (by decide +kernel) kL_RX4_67 kI_java_lang_IndexOutOfBoundsException (by decide) kX_71 kY_71 hl.1 dX4_clean_10 dX4_clean_13 dX4_clean_14 dX4_clean_16 dX4_clean_19 (Nat.le_of_ble_eq_true rfl) (Nat.le_of_ble_eq_true rfl) (Nat.le_of_ble_eq_true rfl) (Nat.le_of_ble_eq_true rfl) (Nat.le_of_ble_eq_true rfl) (Nat.le_of_ble_eq_true rfl) hw
  · replace hw := hw.2 q1 hn
    subst hn
    replace hl : lv_has ls 4 [(2, .ref q1), (0, .ref a0), (1, .int x1)] := hl
    refine lv_aload_n B.1.1 B.1.2.1 dX4_clean_20 rfl (lv_at hl 0 rfl) ?_
    obtain ⟨hok, hw⟩ := hw
    refine q_callIV B h (met_X2_isPrinting l q1) (CB B 0 kC_X2_isPrinting kI_RX2 kM_RX4_120 hd_X2_isPrinting ⟨Nat.le_of_ble_eq_true rfl, Nat.le_of_ble_eq_true rfl⟩) kO_X2_isPrinting kV_X2_isPrinting (ci := 2) rfl (by decide) hok.1 hok.2 (rest := []) rfl rfl hl.1 (Nat.le_of_ble_eq_true rfl) dX4_clean_21 ⟨Nat.le_of_ble_eq_true rfl, Nat.le_of_ble_eq_true rfl⟩ hw (fun r1 S2 H locs hw9 h9 => ?_)
    replace hw := hw9
    clear hw9
    replace h := h9
    clear h9
    refine lv_if_eq (tgt := 37) B.1.1 B.1.2.1 dX4_clean_24 (by decide) (fun hc => ?_) (fun hc => ?_)
    · replace hw := hw.1 hc
      refine lv_aload_n B.1.1 B.1.2.1 dX4_clean_37 rfl (lv_at hl 0 rfl) ?_
      obtain ⟨hok, hw⟩ := hw
      refine q_callIV B h (met_X2_blockedCount l q1) (CB B 0 kC_X2_blockedCount kI_RX2 kM_RX4_117 hd_X2_blockedCount ⟨Nat.le_of_ble_eq_true rfl, Nat.le_of_ble_eq_true rfl⟩) kO_X2_blockedCount kV_X2_blockedCount (ci := 2) rfl (by decide) hok.1 hok.2 (rest := []) rfl rfl hl.1 (Nat.le_of_ble_eq_true rfl) dX4_clean_38 ⟨Nat.le_of_ble_eq_true rfl, Nat.le_of_ble_eq_true rfl⟩ hw (fun r2 S3 H locs hw9 h9 => ?_)
      replace hw := hw9
      clear hw9
      replace h := h9
      clear h9
      refine lv_istore_n (i := 3) (lv' := [(3, .int r2), (2, .ref q1), (0, .ref a0), (1, .int x1)]) B.1.1 B.1.2.1 dX4_clean_41 rfl hl (by decide) rfl (fun ls hl9 => ?_)
      replace hl := hl9
      clear hl9
      refine lv_aload_n B.1.1 B.1.2.1 dX4_clean_42 rfl (lv_at hl 1 rfl) ?_
      obtain ⟨hok, hw⟩ := hw
      refine q_callVV B h (met_X2_freeNozzles l q1) (CB B 0 kC_X2_freeNozzles kI_RX2 kM_RX4_126 hd_X2_freeNozzles ⟨Nat.le_of_ble_eq_true rfl, Nat.le_of_ble_eq_true rfl⟩) kO_X2_freeNozzles kV_X2_freeNozzles (ci := 2) rfl (by decide) hok.1 hok.2 (rest := []) rfl rfl hl.1 (Nat.le_of_ble_eq_true rfl) dX4_clean_43 ⟨Nat.le_of_ble_eq_true rfl, Nat.le_of_ble_eq_true rfl⟩ hw (fun S4 H locs hw9 h9 => ?_)
      replace hw := hw9
      clear hw9
      replace h := h9
      clear h9
      refine lv_aload_n B.1.1 B.1.2.1 dX4_clean_46 rfl (lv_at hl 1 rfl) ?_
      refine lv_dup B.1.1 B.1.2.1 dX4_clean_47 rfl ?_
      obtain ⟨hok, hw⟩ := hw
      refine q_getIN B h (ci := 2) (j := 4) (code := 68) rfl inT_2 (by decide) kF_RX4_129 rfl rfl rfl (by decide) dX4_clean_48 hok.1 hok.2 ?_
      refine lv_bipush (v := (20 : Int32)) B.1.1 B.1.2.1 dX4_clean_51 (by decide) ?_
      refine lv_iadd B.1.1 B.1.2.1 dX4_clean_53 ?_
      obtain ⟨hok, hw⟩ := hw
      refine q_putIN B h (ci := 2) (j := 4) (code := 68) (v := ((gI S4 68 q1) + (20 : Int32))) rfl inT_2 tyX2 tyX2_ok nmX2 (by decide) kF_RX4_129 rfl rfl rfl rfl (by decide) (by first | rfl | decide) (by first | rfl | decide) dX4_clean_54 hok.1 hok.2 (fun H locs h9 => ?_)
      obtain ⟨S5, hS5, hh⟩ : ∃ z, z = sI S4 68 q1 ((gI S4 68 q1) + (20 : Int32)) ∧ Hx D cs lo s z H _ := ⟨_, rfl, h9⟩
      clear h9
      replace h := hh
      clear hh
      replace hw := hw S5 hS5
      refine lv_iload_n B.1.1 B.1.2.1 dX4_clean_57 rfl (lv_at hl 0 rfl) ?_
      refine vx_ret ?_; exact q_iret B hr hlk h hw dX4_clean_58 (Nat.le_of_ble_eq_true rfl) (Nat.le_of_ble_eq_true rfl)
    · replace hw := hw.2 hc
      exact q_throw (E := "java/lang/IllegalStateException") (text := "it is printing") (ic := 52) B h hst hxt hlk rfl (by decide +kernel) kL_RX4_48 kI_java_lang_IllegalStateException (by decide) kX_52 kY_52 hl.1 dX4_clean_27 dX4_clean_30 dX4_clean_31 dX4_clean_33 dX4_clean_36 (Nat.le_of_ble_eq_true rfl) (Nat.le_of_ble_eq_true rfl) (Nat.le_of_ble_eq_true rfl) (Nat.le_of_ble_eq_true rfl) (Nat.le_of_ble_eq_true rfl) (Nat.le_of_ble_eq_true rfl) hw
set_option maxHeartbeats 4000000 in
set_option maxRecDepth 100000 in
theorem met_X4_patch (l : Launch) (hst : l.stackTraces = false) (a0 : Nat) (x1 : Int32) (x2 : Int32) (x3 : Int32) : TI l yX4_patch cX4_patch 6 (some .int) 6 82 1 6 [.ref a0, .int x1, .int x2, .int x3] (wX4_patch a0 x1 x2 x3) := by
  refine TI.of (by decide) (Nat.le_of_ble_eq_true rfl) ?_
  intro p e s m below meth c D cs lo S Q QX ls B hr hlk hin hxt
  have L52 : ∀ (c2 : Int32) (c3 : Int32) (c4 : Nat) (K : Int32 → HS → Prop) (n : Nat) (m5 : Int32) (S : HS) (H : Heap) (locs : List Loc) (ls : Array Slot), Hx D cs lo s S H locs → lv_has ls 6 [(2, .int c2), (3, .int c3), (4, .ref c4), (5, .int m5)] → wX4_patch_L52 c2 c3 c4 n m5 S K → (∀ (m5 : Int32) (S : HS) (H : Heap) (locs : List Loc) (ls : Array Slot), Hx D cs lo s S H locs → lv_has ls 6 [(2, .int c2), (3, .int c3), (4, .ref c4), (5, .int m5)] → K m5 S → W p l e ({ frames := 6, cells := 1, slots := 6, locals := 82 } : Room) s m [.ref a0, .int x1, .int x2, .int x3].toArray below meth c H locs 0 0 (vx_MQ below (va_Qi Q (fun S' t => hp D cs lo S' t.heap) (fun q => lo ≤ q)) (vx_X (fun _ : HS => True) (fun E S' t => QX E S' ∧ hp D cs lo S' t.heap) (fun q => lo ≤ q)) [.ref a0, .int x1, .int x2, .int x3].toArray s 1 6 (fun q => lo ≤ q)) (F0 m 73 ls [])) → W p l e ({ frames := 6, cells := 1, slots := 6, locals := 82 } : Room) s m [.ref a0, .int x1, .int x2, .int x3].toArray below meth c H locs 0 0 (vx_MQ below (va_Qi Q (fun S' t => hp D cs lo S' t.heap) (fun q => lo ≤ q)) (vx_X (fun _ : HS => True) (fun E S' t => QX E S' ∧ hp D cs lo S' t.heap) (fun q => lo ≤ q)) [.ref a0, .int x1, .int x2, .int x3].toArray s 1 6 (fun q => lo ≤ q)) (F0 m 52 ls []) := by
    intro c2 c3 c4 K n
    induction n with
    | zero => intro m5 S H locs ls h hl hw hk; exact False.elim hw
    | succ n ih =>
      intro m5 S H locs ls h hl hw hk
      refine lv_iload B.1.1 B.1.2.1 dX4_patch_52 (lv_at hl 3 rfl) ?_
      refine lv_bipush (v := (8 : Int32)) B.1.1 B.1.2.1 dX4_patch_54 (by decide) ?_
      refine lv_icmp_ge (tgt := 73) B.1.1 B.1.2.1 dX4_patch_56 (by decide) (fun hc => ?_) (fun hc => ?_)
      · replace hw := hw.1 hc
        exact hk m5 _ _ _ ls h (lv_sub hl [0, 1, 2, 3] rfl) hw
      · replace hw := hw.2 hc
        refine lv_aload B.1.1 B.1.2.1 dX4_patch_59 (lv_at hl 2 rfl) ?_
        refine lv_iload B.1.1 B.1.2.1 dX4_patch_61 (lv_at hl 3 rfl) ?_
        refine lv_iload_n B.1.1 B.1.2.1 dX4_patch_63 rfl (lv_at hl 1 rfl) ?_
        obtain ⟨hok, hw⟩ := hw
        refine q_callVV B h (met_X2_setDose l c4 m5 c3) (CB B 2 kC_X2_setDose kI_RX2 kM_RX4_134 hd_X2_setDose ⟨Nat.le_of_ble_eq_true rfl, Nat.le_of_ble_eq_true rfl⟩) kO_X2_setDose kV_X2_setDose (ci := 2) rfl (by decide) hok.1 hok.2 (rest := []) rfl rfl hl.1 (Nat.le_of_ble_eq_true rfl) dX4_patch_64 ⟨Nat.le_of_ble_eq_true rfl, Nat.le_of_ble_eq_true rfl⟩ hw (fun S4 H locs hw9 h9 => ?_)
        replace hw := hw9
        clear hw9
        replace h := h9
        clear h9
        refine lv_iinc (i := 5) (v := (m5 + (1 : Int32))) (lv' := [(5, .int (m5 + (1 : Int32))), (2, .int c2), (3, .int c3), (4, .ref c4)]) B.1.1 B.1.2.1 dX4_patch_67 hl (k := 3) rfl rfl (by decide) rfl (fun ls hl9 => ?_)
        replace hl := hl9
        clear hl9
        refine lv_goto (tgt := 52) B.1.1 B.1.2.1 dX4_patch_70 (by decide) ?_
        exact ih (m5 + (1 : Int32)) _ _ _ ls h (lv_sub hl [1, 2, 3, 0] rfl) hw hk
  intro h hl hw
  replace hl : lv_has ls 6 [(0, .ref a0), (1, .int x1), (2, .int x2), (3, .int x3)] := hl
  refine lv_aload_n B.1.1 B.1.2.1 dX4_patch_0 rfl (lv_at hl 0 rfl) ?_
  refine lv_iload_n B.1.1 B.1.2.1 dX4_patch_1 rfl (lv_at hl 1 rfl) ?_
  obtain ⟨hok, hw⟩ := hw
  refine q_callOV B h (met_X4_printerAt l a0 x1) (CB B 1 kC_X4_printerAt kI_RX4 kM_RX4_97 hd_X4_printerAt ⟨Nat.le_of_ble_eq_true rfl, Nat.le_of_ble_eq_true rfl⟩) kO_X4_printerAt kV_X4_printerAt (ci := 4) rfl (by decide) hok.1 hok.2 (rest := []) rfl rfl hl.1 (Nat.le_of_ble_eq_true rfl) dX4_patch_2 ⟨Nat.le_of_ble_eq_true rfl, Nat.le_of_ble_eq_true rfl⟩ hw (fun o1 S1 H locs hw9 h9 => ?_)
  replace hw := hw9
  clear hw9
  replace h := h9
  clear h9
  refine q_astore (i := 4) (lv' := [(4, va_rf o1), (0, .ref a0), (1, .int x1), (2, .int x2), (3, .int x3)]) B.1.1 B.1.2.1 dX4_patch_5 hl (by decide) rfl (fun ls hl9 => ?_)
  replace hl := hl9
  clear hl9
  refine q_aload B.1.1 B.1.2.1 dX4_patch_7 (lv_at hl 0 rfl) ?_
  refine q_ifnull (tgt := 19) B.1.1 B.1.2.1 dX4_patch_9 (by decide) (fun hn => ?_) (fun q1 hn => ?_)
  · replace hw := hw.1 hn
    subst hn
    replace hl : lv_has ls 6 [(4, .null), (0, .ref a0), (1, .int x1), (2, .int x2), (3, .int x3)] := hl
    exact q_throw (E := "java/lang/IndexOutOfBoundsException") (text := "printer or row") (ic := 71) B h hst hxt hlk rfl (by decide +kernel) kL_RX4_67 kI_java_lang_IndexOutOfBoundsException (by decide) kX_71 kY_71 hl.1 dX4_patch_19 dX4_patch_22 dX4_patch_23 dX4_patch_25 dX4_patch_28 (Nat.le_of_ble_eq_true rfl) (Nat.le_of_ble_eq_true rfl) (Nat.le_of_ble_eq_true rfl) (Nat.le_of_ble_eq_true rfl) (Nat.le_of_ble_eq_true rfl) (Nat.le_of_ble_eq_true rfl) hw
  · replace hw := hw.2 q1 hn
    subst hn
    replace hl : lv_has ls 6 [(4, .ref q1), (0, .ref a0), (1, .int x1), (2, .int x2), (3, .int x3)] := hl
    refine lv_iload_n B.1.1 B.1.2.1 dX4_patch_12 rfl (lv_at hl 3 rfl) ?_
    refine q_callIS B h (met_X4_isRow l x2) (CB B 1 kC_X4_isRow kI_RX4 kM_RX4_60 hd_X4_isRow ⟨Nat.le_of_ble_eq_true rfl, Nat.le_of_ble_eq_true rfl⟩) kS_X4_isRow (rest := []) rfl rfl hl.1 (Nat.le_of_ble_eq_true rfl) dX4_patch_13 ⟨Nat.le_of_ble_eq_true rfl, Nat.le_of_ble_eq_true rfl⟩ hw (fun r1 S2 H locs hw9 h9 => ?_)
    replace hw := hw9
    clear hw9
    replace h := h9
    clear h9
    refine lv_if_ne (tgt := 29) B.1.1 B.1.2.1 dX4_patch_16 (by decide) (fun hc => ?_) (fun hc => ?_)
    · replace hw := hw.1 hc
      refine lv_iload_n B.1.1 B.1.2.1 dX4_patch_29 rfl (lv_at hl 4 rfl) ?_
      refine lv_iconst (v := (0 : Int32)) B.1.1 B.1.2.1 dX4_patch_30 (by decide) ?_
      refine lv_bipush (v := (15 : Int32)) B.1.1 B.1.2.1 dX4_patch_31 (by decide) ?_
      refine q_callIS B h (met_X4_isWithin l x3 (0 : Int32) (15 : Int32)) (CB B 3 kC_X4_isWithin kI_RX4 kM_RX4_29 hd_X4_isWithin ⟨Nat.le_of_ble_eq_true rfl, Nat.le_of_ble_eq_true rfl⟩) kS_X4_isWithin (rest := []) rfl rfl hl.1 (Nat.le_of_ble_eq_true rfl) dX4_patch_33 ⟨Nat.le_of_ble_eq_true rfl, Nat.le_of_ble_eq_true rfl⟩ hw (fun r2 S3 H locs hw9 h9 => ?_)
      replace hw := hw9
      clear hw9
      replace h := h9
      clear h9
      refine lv_if_ne (tgt := 49) B.1.1 B.1.2.1 dX4_patch_36 (by decide) (fun hc => ?_) (fun hc => ?_)
      · replace hw := hw.1 hc
        refine lv_iconst (v := (0 : Int32)) B.1.1 B.1.2.1 dX4_patch_49 (by decide) ?_
        refine lv_istore (i := 5) (lv' := [(5, .int (0 : Int32)), (4, .ref q1), (0, .ref a0), (1, .int x1), (2, .int x2), (3, .int x3)]) B.1.1 B.1.2.1 dX4_patch_50 hl (by decide) rfl (fun ls hl9 => ?_)
        replace hl := hl9
        clear hl9
        obtain ⟨n1, hw⟩ := hw
        refine L52 x2 x3 q1 _ n1 (0 : Int32) _ _ _ ls h (lv_sub hl [4, 5, 1, 0] rfl) hw (fun u1 S5 H locs ls h9 hl9 hw9 => ?_)
        replace hw := hw9
        clear hw9
        replace h := h9
        clear h9
        replace hl := hl9
        clear hl9
        refine lv_aload B.1.1 B.1.2.1 dX4_patch_73 (lv_at hl 2 rfl) ?_
        refine lv_iload_n B.1.1 B.1.2.1 dX4_patch_75 rfl (lv_at hl 0 rfl) ?_
        obtain ⟨hok, hw⟩ := hw
        refine q_callIV B h (met_X2_laidInRow l q1 x2) (CB B 1 kC_X2_laidInRow kI_RX2 kM_RX4_138 hd_X2_laidInRow ⟨Nat.le_of_ble_eq_true rfl, Nat.le_of_ble_eq_true rfl⟩) kO_X2_laidInRow kV_X2_laidInRow (ci := 2) rfl (by decide) hok.1 hok.2 (rest := []) rfl rfl hl.1 (Nat.le_of_ble_eq_true rfl) dX4_patch_76 ⟨Nat.le_of_ble_eq_true rfl, Nat.le_of_ble_eq_true rfl⟩ hw (fun r3 S6 H locs hw9 h9 => ?_)
        replace hw := hw9
        clear hw9
        replace h := h9
        clear h9
        refine vx_ret ?_; exact q_iret B hr hlk h hw dX4_patch_79 (Nat.le_of_ble_eq_true rfl) (Nat.le_of_ble_eq_true rfl)
      · replace hw := hw.2 hc
        exact q_throw (E := "java/lang/IllegalArgumentException") (text := "level") (ic := 37) B h hst hxt hlk rfl (by decide +kernel) kL_RX4_33 kI_java_lang_IllegalArgumentException (by decide) kX_37 kY_37 hl.1 dX4_patch_39 dX4_patch_42 dX4_patch_43 dX4_patch_45 dX4_patch_48 (Nat.le_of_ble_eq_true rfl) (Nat.le_of_ble_eq_true rfl) (Nat.le_of_ble_eq_true rfl) (Nat.le_of_ble_eq_true rfl) (Nat.le_of_ble_eq_true rfl) (Nat.le_of_ble_eq_true rfl) hw
    · replace hw := hw.2 hc
      exact q_throw (E := "java/lang/IndexOutOfBoundsException") (text := "printer or row") (ic := 71) B h hst hxt hlk rfl (by decide +kernel) kL_RX4_67 kI_java_lang_IndexOutOfBoundsException (by decide) kX_71 kY_71 hl.1 dX4_patch_19 dX4_patch_22 dX4_patch_23 dX4_patch_25 dX4_patch_28 (Nat.le_of_ble_eq_true rfl) (Nat.le_of_ble_eq_true rfl) (Nat.le_of_ble_eq_true rfl) (Nat.le_of_ble_eq_true rfl) (Nat.le_of_ble_eq_true rfl) (Nat.le_of_ble_eq_true rfl) hw
set_option maxHeartbeats 4000000 in
set_option maxRecDepth 100000 in
theorem met_X4_put (l : Launch) (hst : l.stackTraces = false) (a0 : Nat) (x1 : Int32) (x2 : Int32) (x3 : Int32) : TI l yX4_put cX4_put 6 (some .int) 6 82 1 6 [.ref a0, .int x1, .int x2, .int x3] (wX4_put a0 x1 x2 x3) := by
  refine TI.of (by decide) (Nat.le_of_ble_eq_true rfl) ?_
  intro p e s m below meth c D cs lo S Q QX ls B hr hlk hin hxt
  intro h hl hw
  replace hl : lv_has ls 6 [(0, .ref a0), (1, .int x1), (2, .int x2), (3, .int x3)] := hl
  refine lv_aload_n B.1.1 B.1.2.1 dX4_put_0 rfl (lv_at hl 0 rfl) ?_
  refine lv_iload_n B.1.1 B.1.2.1 dX4_put_1 rfl (lv_at hl 1 rfl) ?_
  obtain ⟨hok, hw⟩ := hw
  refine q_callOV B h (met_X4_bannerAt l a0 x1) (CB B 1 kC_X4_bannerAt kI_RX4 kM_RX4_56 hd_X4_bannerAt ⟨Nat.le_of_ble_eq_true rfl, Nat.le_of_ble_eq_true rfl⟩) kO_X4_bannerAt kV_X4_bannerAt (ci := 4) rfl (by decide) hok.1 hok.2 (rest := []) rfl rfl hl.1 (Nat.le_of_ble_eq_true rfl) dX4_put_2 ⟨Nat.le_of_ble_eq_true rfl, Nat.le_of_ble_eq_true rfl⟩ hw (fun o1 S1 H locs hw9 h9 => ?_)
  replace hw := hw9
  clear hw9
  replace h := h9
  clear h9
  refine lv_iload_n B.1.1 B.1.2.1 dX4_put_5 rfl (lv_at hl 2 rfl) ?_
  refine q_callOS B h (met_X4_stripAt l o1 x2) (CB B 2 kC_X4_stripAt kI_RX4 kM_RX4_87 hd_X4_stripAt ⟨Nat.le_of_ble_eq_true rfl, Nat.le_of_ble_eq_true rfl⟩) kS_X4_stripAt (rest := []) rfl rfl hl.1 (Nat.le_of_ble_eq_true rfl) dX4_put_6 ⟨Nat.le_of_ble_eq_true rfl, Nat.le_of_ble_eq_true rfl⟩ hw (fun o2 S2 H locs hw9 h9 => ?_)
  replace hw := hw9
  clear hw9
  replace h := h9
  clear h9
  refine q_astore (i := 4) (lv' := [(4, va_rf o2), (0, .ref a0), (1, .int x1), (2, .int x2), (3, .int x3)]) B.1.1 B.1.2.1 dX4_put_9 hl (by decide) rfl (fun ls hl9 => ?_)
  replace hl := hl9
  clear hl9
  refine lv_aload_n B.1.1 B.1.2.1 dX4_put_11 rfl (lv_at hl 1 rfl) ?_
  refine lv_iload_n B.1.1 B.1.2.1 dX4_put_12 rfl (lv_at hl 4 rfl) ?_
  obtain ⟨hok, hw⟩ := hw
  refine q_callOV B h (met_X4_printerAt l a0 x3) (CB B 1 kC_X4_printerAt kI_RX4 kM_RX4_97 hd_X4_printerAt ⟨Nat.le_of_ble_eq_true rfl, Nat.le_of_ble_eq_true rfl⟩) kO_X4_printerAt kV_X4_printerAt (ci := 4) rfl (by decide) hok.1 hok.2 (rest := []) rfl rfl hl.1 (Nat.le_of_ble_eq_true rfl) dX4_put_13 ⟨Nat.le_of_ble_eq_true rfl, Nat.le_of_ble_eq_true rfl⟩ hw (fun o3 S3 H locs hw9 h9 => ?_)
  replace hw := hw9
  clear hw9
  replace h := h9
  clear h9
  refine q_astore (i := 5) (lv' := [(5, va_rf o3), (4, va_rf o2), (0, .ref a0), (1, .int x1), (2, .int x2), (3, .int x3)]) B.1.1 B.1.2.1 dX4_put_16 hl (by decide) (by simp [List.filter, rf_cat, cat_i, cat_r, cat_n]) (fun ls hl9 => ?_)
  replace hl := hl9
  clear hl9
  refine q_aload B.1.1 B.1.2.1 dX4_put_18 (lv_at hl 1 rfl) ?_
  refine q_ifnull (tgt := 28) B.1.1 B.1.2.1 dX4_put_20 (by decide) (fun hn => ?_) (fun q1 hn => ?_)
  · replace hw := hw.1 hn
    subst hn
    replace hl : lv_has ls 6 [(5, va_rf o3), (4, .null), (0, .ref a0), (1, .int x1), (2, .int x2), (3, .int x3)] := hl
    exact q_throw (E := "java/lang/IndexOutOfBoundsException") (text := "banner, strip or printer") (ic := 71) B h hst hxt hlk rfl (by decide +kernel) kL_RX4_67 kI_java_lang_IndexOutOfBoundsException (by decide) kX_71 kY_71 hl.1 dX4_put_28 dX4_put_31 dX4_put_32 dX4_put_34 dX4_put_37 (Nat.le_of_ble_eq_true rfl) (Nat.le_of_ble_eq_true rfl) (Nat.le_of_ble_eq_true rfl) (Nat.le_of_ble_eq_true rfl) (Nat.le_of_ble_eq_true rfl) (Nat.le_of_ble_eq_true rfl) hw
  · replace hw := hw.2 q1 hn
    subst hn
    replace hl : lv_has ls 6 [(5, va_rf o3), (4, .ref q1), (0, .ref a0), (1, .int x1), (2, .int x2), (3, .int x3)] := hl
    refine q_aload B.1.1 B.1.2.1 dX4_put_23 (lv_at hl 0 rfl) ?_
    refine q_ifnonnull (tgt := 38) B.1.1 B.1.2.1 dX4_put_25 (by decide) (fun hn => ?_) (fun q2 hn => ?_)
    · replace hw := hw.1 hn
      subst hn
      replace hl : lv_has ls 6 [(5, .null), (4, .ref q1), (0, .ref a0), (1, .int x1), (2, .int x2), (3, .int x3)] := hl
      exact q_throw (E := "java/lang/IndexOutOfBoundsException") (text := "banner, strip or printer") (ic := 71) B h hst hxt hlk rfl (by decide +kernel) kL_RX4_67 kI_java_lang_IndexOutOfBoundsException (by decide) kX_71 kY_71 hl.1 dX4_put_28 dX4_put_31 dX4_put_32 dX4_put_34 dX4_put_37 (Nat.le_of_ble_eq_true rfl) (Nat.le_of_ble_eq_true rfl) (Nat.le_of_ble_eq_true rfl) (Nat.le_of_ble_eq_true rfl) (Nat.le_of_ble_eq_true rfl) (Nat.le_of_ble_eq_true rfl) hw
    · replace hw := hw.2 q2 hn
      subst hn
      replace hl : lv_has ls 6 [(5, .ref q2), (4, .ref q1), (0, .ref a0), (1, .int x1), (2, .int x2), (3, .int x3)] := hl
      refine lv_aload B.1.1 B.1.2.1 dX4_put_38 (lv_at hl 1 rfl) ?_
      obtain ⟨hok, hw⟩ := hw
      refine q_getIN B h (ci := 3) (j := 6) (code := 102) rfl inT_3 (by decide) kF_RX4_144 rfl rfl rfl (by decide) dX4_put_40 hok.1 hok.2 ?_
      refine lv_iconst (v := (-1 : Int32)) B.1.1 B.1.2.1 dX4_put_43 (by decide) ?_
      refine lv_icmp_ne (tgt := 67) B.1.1 B.1.2.1 dX4_put_44 (by decide) (fun hc => ?_) (fun hc => ?_)
      · replace hw := hw.1 hc
        exact q_throw (E := "java/lang/IllegalStateException") (text := "waiting, being printed or wet") (ic := 52) B h hst hxt hlk rfl (by decide +kernel) kL_RX4_48 kI_java_lang_IllegalStateException (by decide) kX_52 kY_52 hl.1 dX4_put_67 dX4_put_70 dX4_put_71 dX4_put_73 dX4_put_76 (Nat.le_of_ble_eq_true rfl) (Nat.le_of_ble_eq_true rfl) (Nat.le_of_ble_eq_true rfl) (Nat.le_of_ble_eq_true rfl) (Nat.le_of_ble_eq_true rfl) (Nat.le_of_ble_eq_true rfl) hw
      · replace hw := hw.2 hc
        refine lv_aload B.1.1 B.1.2.1 dX4_put_47 (lv_at hl 1 rfl) ?_
        obtain ⟨hok, hw⟩ := hw
        refine q_getIN B h (ci := 3) (j := 7) (code := 103) rfl inT_3 (by decide) kF_RX4_149 rfl rfl rfl (by decide) dX4_put_49 hok.1 hok.2 ?_
        refine lv_if_ne (tgt := 67) B.1.1 B.1.2.1 dX4_put_52 (by decide) (fun hc => ?_) (fun hc => ?_)
        · replace hw := hw.1 hc
          exact q_throw (E := "java/lang/IllegalStateException") (text := "waiting, being printed or wet") (ic := 52) B h hst hxt hlk rfl (by decide +kernel) kL_RX4_48 kI_java_lang_IllegalStateException (by decide) kX_52 kY_52 hl.1 dX4_put_67 dX4_put_70 dX4_put_71 dX4_put_73 dX4_put_76 (Nat.le_of_ble_eq_true rfl) (Nat.le_of_ble_eq_true rfl) (Nat.le_of_ble_eq_true rfl) (Nat.le_of_ble_eq_true rfl) (Nat.le_of_ble_eq_true rfl) (Nat.le_of_ble_eq_true rfl) hw
        · replace hw := hw.2 hc
          refine lv_aload B.1.1 B.1.2.1 dX4_put_55 (lv_at hl 1 rfl) ?_
          obtain ⟨hok, hw⟩ := hw
          refine q_getIN B h (ci := 3) (j := 8) (code := 104) rfl inT_3 (by decide) kF_RX4_152 rfl rfl rfl (by decide) dX4_put_57 hok.1 hok.2 ?_
          refine lv_aload_n B.1.1 B.1.2.1 dX4_put_60 rfl (lv_at hl 2 rfl) ?_
          obtain ⟨hok, hw⟩ := hw
          refine q_getI B h (ci := 4) (j := 3) (code := 131) rfl inT_4 (by decide) kF_RX4_25 rfl rfl rfl (by decide) dX4_put_61 hok.1 hok.2 ?_
          refine lv_icmp_le (tgt := 77) B.1.1 B.1.2.1 dX4_put_64 (by decide) (fun hc => ?_) (fun hc => ?_)
          · replace hw := hw.1 hc
            refine lv_aload B.1.1 B.1.2.1 dX4_put_77 (lv_at hl 1 rfl) ?_
            refine lv_iload_n B.1.1 B.1.2.1 dX4_put_79 rfl (lv_at hl 5 rfl) ?_
            obtain ⟨hok, hw⟩ := hw
            refine q_putIN B h (ci := 3) (j := 6) (code := 102) (v := x3) rfl inT_3 tyX3 tyX3_ok nmX3 (by decide) kF_RX4_144 rfl rfl rfl rfl (by decide) (by first | rfl | decide) (by first | rfl | decide) dX4_put_80 hok.1 hok.2 (fun H locs h9 => ?_)
            obtain ⟨S4, hS4, hh⟩ : ∃ z, z = sI S3 102 q1 x3 ∧ Hx D cs lo s z H _ := ⟨_, rfl, h9⟩
            clear h9
            replace h := hh
            clear hh
            replace hw := hw S4 hS4
            refine lv_aload B.1.1 B.1.2.1 dX4_put_83 (lv_at hl 0 rfl) ?_
            refine lv_dup B.1.1 B.1.2.1 dX4_put_85 rfl ?_
            obtain ⟨hok, hw⟩ := hw
            refine q_getIN B h (ci := 2) (j := 5) (code := 69) rfl inT_2 (by decide) kF_RX4_157 rfl rfl rfl (by decide) dX4_put_86 hok.1 hok.2 ?_
            refine lv_iconst (v := (1 : Int32)) B.1.1 B.1.2.1 dX4_put_89 (by decide) ?_
            refine lv_iadd B.1.1 B.1.2.1 dX4_put_90 ?_
            obtain ⟨hok, hw⟩ := hw
            refine q_putIN B h (ci := 2) (j := 5) (code := 69) (v := ((gI S4 69 q2) + (1 : Int32))) rfl inT_2 tyX2 tyX2_ok nmX2 (by decide) kF_RX4_157 rfl rfl rfl rfl (by decide) (by first | rfl | decide) (by first | rfl | decide) dX4_put_91 hok.1 hok.2 (fun H locs h9 => ?_)
            obtain ⟨S5, hS5, hh⟩ : ∃ z, z = sI S4 69 q2 ((gI S4 69 q2) + (1 : Int32)) ∧ Hx D cs lo s z H _ := ⟨_, rfl, h9⟩
            clear h9
            replace h := hh
            clear hh
            replace hw := hw S5 hS5
            refine lv_aload B.1.1 B.1.2.1 dX4_put_94 (lv_at hl 0 rfl) ?_
            obtain ⟨hok, hw⟩ := hw
            refine q_getIN B h (ci := 2) (j := 5) (code := 69) rfl inT_2 (by decide) kF_RX4_157 rfl rfl rfl (by decide) dX4_put_96 hok.1 hok.2 ?_
            refine vx_ret ?_; exact q_iret B hr hlk h hw dX4_put_99 (Nat.le_of_ble_eq_true rfl) (Nat.le_of_ble_eq_true rfl)
          · replace hw := hw.2 hc
            exact q_throw (E := "java/lang/IllegalStateException") (text := "waiting, being printed or wet") (ic := 52) B h hst hxt hlk rfl (by decide +kernel) kL_RX4_48 kI_java_lang_IllegalStateException (by decide) kX_52 kY_52 hl.1 dX4_put_67 dX4_put_70 dX4_put_71 dX4_put_73 dX4_put_76 (Nat.le_of_ble_eq_true rfl) (Nat.le_of_ble_eq_true rfl) (Nat.le_of_ble_eq_true rfl) (Nat.le_of_ble_eq_true rfl) (Nat.le_of_ble_eq_true rfl) (Nat.le_of_ble_eq_true rfl) hw
set_option maxHeartbeats 4000000 in
set_option maxRecDepth 100000 in
theorem met_X4_pass (l : Launch) (hst : l.stackTraces = false) (a0 : Nat) (x1 : Int32) : TI l yX4_pass cX4_pass 4 (some .int) 6 144 1 6 [.ref a0, .int x1] (wX4_pass a0 x1) := by
  refine TI.of (by decide) (Nat.le_of_ble_eq_true rfl) ?_
  intro p e s m below meth c D cs lo S Q QX ls B hr hlk hin hxt
  have L25 : ∀ (c0 : Nat) (c1 : Int32) (K : Int32 → Int32 → HS → Prop) (n : Nat) (m2 : Int32) (m3 : Int32) (S : HS) (H : Heap) (locs : List Loc) (ls : Array Slot), Hx D cs lo s S H locs → lv_has ls 4 [(0, .ref c0), (1, .int c1), (2, .int m2), (3, .int m3)] → wX4_pass_L25 c0 c1 n m2 m3 S K → (∀ (m2 : Int32) (m3 : Int32) (S : HS) (H : Heap) (locs : List Loc) (ls : Array Slot), Hx D cs lo s S H locs → lv_has ls 4 [(0, .ref c0), (1, .int c1), (2, .int m2), (3, .int m3)] → K m2 m3 S → W p l e ({ frames := 6, cells := 1, slots := 6, locals := 144 } : Room) s m [.ref a0, .int x1].toArray below meth c H locs 0 0 (vx_MQ below (va_Qi Q (fun S' t => hp D cs lo S' t.heap) (fun q => lo ≤ q)) (vx_X (fun _ : HS => True) (fun E S' t => QX E S' ∧ hp D cs lo S' t.heap) (fun q => lo ≤ q)) [.ref a0, .int x1].toArray s 1 6 (fun q => lo ≤ q)) (F0 m 57 ls [])) → W p l e ({ frames := 6, cells := 1, slots := 6, locals := 144 } : Room) s m [.ref a0, .int x1].toArray below meth c H locs 0 0 (vx_MQ below (va_Qi Q (fun S' t => hp D cs lo S' t.heap) (fun q => lo ≤ q)) (vx_X (fun _ : HS => True) (fun E S' t => QX E S' ∧ hp D cs lo S' t.heap) (fun q => lo ≤ q)) [.ref a0, .int x1].toArray s 1 6 (fun q => lo ≤ q)) (F0 m 25 ls []) := by
    intro c0 c1 K n
    induction n with
    | zero => intro m2 m3 S H locs ls h hl hw hk; exact False.elim hw
    | succ n ih =>
      intro m2 m3 S H locs ls h hl hw hk
      refine lv_iload_n B.1.1 B.1.2.1 dX4_pass_25 rfl (lv_at hl 3 rfl) ?_
      refine lv_iload_n B.1.1 B.1.2.1 dX4_pass_26 rfl (lv_at hl 1 rfl) ?_
      refine lv_icmp_ge (tgt := 57) B.1.1 B.1.2.1 dX4_pass_27 (by decide) (fun hc => ?_) (fun hc => ?_)
      · replace hw := hw.1 hc
        exact hk m2 m3 _ _ _ ls h (lv_sub hl [0, 1, 2, 3] rfl) hw
      · replace hw := hw.2 hc
        refine lv_aload_n B.1.1 B.1.2.1 dX4_pass_30 rfl (lv_at hl 0 rfl) ?_
        obtain ⟨hok, hw⟩ := hw
        refine q_callVV B h (met_X4_startIdlePrinters l c0) (CB B 0 kC_X4_startIdlePrinters kI_RX4 kM_RX4_162 hd_X4_startIdlePrinters ⟨Nat.le_of_ble_eq_true rfl, Nat.le_of_ble_eq_true rfl⟩) kO_X4_startIdlePrinters kV_X4_startIdlePrinters (ci := 4) rfl (by decide) hok.1 hok.2 (rest := []) rfl rfl hl.1 (Nat.le_of_ble_eq_true rfl) dX4_pass_31 ⟨Nat.le_of_ble_eq_true rfl, Nat.le_of_ble_eq_true rfl⟩ hw (fun S2 H locs hw9 h9 => ?_)
        replace hw := hw9
        clear hw9
        replace h := h9
        clear h9
        refine lv_aload_n B.1.1 B.1.2.1 dX4_pass_34 rfl (lv_at hl 0 rfl) ?_
        refine lv_dup B.1.1 B.1.2.1 dX4_pass_35 rfl ?_
        obtain ⟨hok, hw⟩ := hw
        refine q_getI B h (ci := 4) (j := 3) (code := 131) rfl inT_4 (by decide) kF_RX4_25 rfl rfl rfl (by decide) dX4_pass_36 hok.1 hok.2 ?_
        refine lv_iconst (v := (1 : Int32)) B.1.1 B.1.2.1 dX4_pass_39 (by decide) ?_
        refine lv_iadd B.1.1 B.1.2.1 dX4_pass_40 ?_
        obtain ⟨hok, hw⟩ := hw
        refine q_putI B h (ci := 4) (j := 3) (code := 131) (v := ((gI S2 131 c0) + (1 : Int32))) rfl inT_4 tyX4 tyX4_ok nmX4 (by decide) kF_RX4_25 rfl rfl rfl rfl (by decide) (by first | rfl | decide) (by first | rfl | decide) dX4_pass_41 hok.1 hok.2 (fun H locs h9 => ?_)
        obtain ⟨S3, hS3, hh⟩ : ∃ z, z = sI S2 131 c0 ((gI S2 131 c0) + (1 : Int32)) ∧ Hx D cs lo s z H _ := ⟨_, rfl, h9⟩
        clear h9
        replace h := hh
        clear hh
        replace hw := hw S3 hS3
        refine lv_iload_n B.1.1 B.1.2.1 dX4_pass_44 rfl (lv_at hl 2 rfl) ?_
        refine lv_aload_n B.1.1 B.1.2.1 dX4_pass_45 rfl (lv_at hl 0 rfl) ?_
        obtain ⟨hok, hw⟩ := hw
        refine q_callIV B h (met_X4_endTick l c0) (CB B 0 kC_X4_endTick kI_RX4 kM_RX4_165 hd_X4_endTick ⟨Nat.le_of_ble_eq_true rfl, Nat.le_of_ble_eq_true rfl⟩) kO_X4_endTick kV_X4_endTick (ci := 4) rfl (by decide) hok.1 hok.2 (rest := [.int m2]) rfl rfl hl.1 (Nat.le_of_ble_eq_true rfl) dX4_pass_46 ⟨Nat.le_of_ble_eq_true rfl, Nat.le_of_ble_eq_true rfl⟩ hw (fun r2 S4 H locs hw9 h9 => ?_)
        replace hw := hw9
        clear hw9
        replace h := h9
        clear h9
        refine lv_iadd B.1.1 B.1.2.1 dX4_pass_49 ?_
        refine lv_istore_n (i := 2) (lv' := [(2, .int (m2 + r2)), (0, .ref c0), (1, .int c1), (3, .int m3)]) B.1.1 B.1.2.1 dX4_pass_50 rfl hl (by decide) rfl (fun ls hl9 => ?_)
        replace hl := hl9
        clear hl9
        refine lv_iinc (i := 3) (v := (m3 + (1 : Int32))) (lv' := [(3, .int (m3 + (1 : Int32))), (2, .int (m2 + r2)), (0, .ref c0), (1, .int c1)]) B.1.1 B.1.2.1 dX4_pass_51 hl (k := 3) rfl rfl (by decide) rfl (fun ls hl9 => ?_)
        replace hl := hl9
        clear hl9
        refine lv_goto (tgt := 25) B.1.1 B.1.2.1 dX4_pass_54 (by decide) ?_
        exact ih (m2 + r2) (m3 + (1 : Int32)) _ _ _ ls h (lv_sub hl [2, 3, 1, 0] rfl) hw hk
  intro h hl hw
  replace hl : lv_has ls 4 [(0, .ref a0), (1, .int x1)] := hl
  refine lv_iload_n B.1.1 B.1.2.1 dX4_pass_0 rfl (lv_at hl 1 rfl) ?_
  refine lv_iconst (v := (1 : Int32)) B.1.1 B.1.2.1 dX4_pass_1 (by decide) ?_
  refine lv_sipush (v := (200 : Int32)) B.1.1 B.1.2.1 dX4_pass_2 (by decide) ?_
  refine q_callIS B h (met_X4_isWithin l x1 (1 : Int32) (200 : Int32)) (CB B 3 kC_X4_isWithin kI_RX4 kM_RX4_29 hd_X4_isWithin ⟨Nat.le_of_ble_eq_true rfl, Nat.le_of_ble_eq_true rfl⟩) kS_X4_isWithin (rest := []) rfl rfl hl.1 (Nat.le_of_ble_eq_true rfl) dX4_pass_5 ⟨Nat.le_of_ble_eq_true rfl, Nat.le_of_ble_eq_true rfl⟩ hw (fun r1 S1 H locs hw9 h9 => ?_)
  replace hw := hw9
  clear hw9
  replace h := h9
  clear h9
  refine lv_if_ne (tgt := 21) B.1.1 B.1.2.1 dX4_pass_8 (by decide) (fun hc => ?_) (fun hc => ?_)
  · replace hw := hw.1 hc
    refine lv_iconst (v := (0 : Int32)) B.1.1 B.1.2.1 dX4_pass_21 (by decide) ?_
    refine lv_istore_n (i := 2) (lv' := [(2, .int (0 : Int32)), (0, .ref a0), (1, .int x1)]) B.1.1 B.1.2.1 dX4_pass_22 rfl hl (by decide) rfl (fun ls hl9 => ?_)
    replace hl := hl9
    clear hl9
    refine lv_iconst (v := (0 : Int32)) B.1.1 B.1.2.1 dX4_pass_23 (by decide) ?_
    refine lv_istore_n (i := 3) (lv' := [(3, .int (0 : Int32)), (2, .int (0 : Int32)), (0, .ref a0), (1, .int x1)]) B.1.1 B.1.2.1 dX4_pass_24 rfl hl (by decide) rfl (fun ls hl9 => ?_)
    replace hl := hl9
    clear hl9
    obtain ⟨n1, hw⟩ := hw
    refine L25 a0 x1 _ n1 (0 : Int32) (0 : Int32) _ _ _ ls h (lv_sub hl [2, 3, 1, 0] rfl) hw (fun u1 u2 S5 H locs ls h9 hl9 hw9 => ?_)
    replace hw := hw9
    clear hw9
    replace h := h9
    clear h9
    replace hl := hl9
    clear hl9
    refine lv_iload_n B.1.1 B.1.2.1 dX4_pass_57 rfl (lv_at hl 2 rfl) ?_
    refine vx_ret ?_; exact q_iret B hr hlk h hw dX4_pass_58 (Nat.le_of_ble_eq_true rfl) (Nat.le_of_ble_eq_true rfl)
  · replace hw := hw.2 hc
    exact q_throw (E := "java/lang/IllegalArgumentException") (text := "ticks") (ic := 37) B h hst hxt hlk rfl (by decide +kernel) kL_RX4_33 kI_java_lang_IllegalArgumentException (by decide) kX_37 kY_37 hl.1 dX4_pass_11 dX4_pass_14 dX4_pass_15 dX4_pass_17 dX4_pass_20 (Nat.le_of_ble_eq_true rfl) (Nat.le_of_ble_eq_true rfl) (Nat.le_of_ble_eq_true rfl) (Nat.le_of_ble_eq_true rfl) (Nat.le_of_ble_eq_true rfl) (Nat.le_of_ble_eq_true rfl) hw
set_option maxHeartbeats 4000000 in
set_option maxRecDepth 100000 in
theorem met_X4_prints (l : Launch) (hst : l.stackTraces = false) (a0 : Nat) (x1 : Int32) : TI l yX4_prints cX4_prints 4 (some .int) 6 82 1 6 [.ref a0, .int x1] (wX4_prints a0 x1) := by
  refine TI.of (by decide) (Nat.le_of_ble_eq_true rfl) ?_
  intro p e s m below meth c D cs lo S Q QX ls B hr hlk hin hxt
  intro h hl hw
  replace hl : lv_has ls 4 [(0, .ref a0), (1, .int x1)] := hl
  refine lv_aload_n B.1.1 B.1.2.1 dX4_prints_0 rfl (lv_at hl 0 rfl) ?_
  refine lv_iload_n B.1.1 B.1.2.1 dX4_prints_1 rfl (lv_at hl 1 rfl) ?_
  obtain ⟨hok, hw⟩ := hw
  refine q_callOV B h (met_X4_printerAt l a0 x1) (CB B 1 kC_X4_printerAt kI_RX4 kM_RX4_97 hd_X4_printerAt ⟨Nat.le_of_ble_eq_true rfl, Nat.le_of_ble_eq_true rfl⟩) kO_X4_printerAt kV_X4_printerAt (ci := 4) rfl (by decide) hok.1 hok.2 (rest := []) rfl rfl hl.1 (Nat.le_of_ble_eq_true rfl) dX4_prints_2 ⟨Nat.le_of_ble_eq_true rfl, Nat.le_of_ble_eq_true rfl⟩ hw (fun o1 S1 H locs hw9 h9 => ?_)
  replace hw := hw9
  clear hw9
  replace h := h9
  clear h9
  refine q_astore_n (i := 2) (lv' := [(2, va_rf o1), (0, .ref a0), (1, .int x1)]) B.1.1 B.1.2.1 dX4_prints_5 rfl hl (by decide) rfl (fun ls hl9 => ?_)
  replace hl := hl9
  clear hl9
  refine q_aload_n B.1.1 B.1.2.1 dX4_prints_6 rfl (lv_at hl 0 rfl) ?_
  refine q_ifnonnull (tgt := 20) B.1.1 B.1.2.1 dX4_prints_7 (by decide) (fun hn => ?_) (fun q1 hn => ?_)
  · replace hw := hw.1 hn
    subst hn
    replace hl : lv_has ls 4 [(2, .null), (0, .ref a0), (1, .int x1)] := hl
    exact q_throw (E := "java/lang/IndexOutOfBoundsException") (text := "printer") (ic := 71) B h hst hxt hlk rfl (by decide +kernel) kL_RX4_67 kI_java_lang_IndexOutOfBoundsException (by decide) kX_71 kY_71 hl.1 dX4_prints_10 dX4_prints_13 dX4_prints_14 dX4_prints_16 dX4_prints_19 (Nat.le_of_ble_eq_true rfl) (Nat.le_of_ble_eq_true rfl) (Nat.le_of_ble_eq_true rfl) (Nat.le_of_ble_eq_true rfl) (Nat.le_of_ble_eq_true rfl) (Nat.le_of_ble_eq_true rfl) hw
  · replace hw := hw.2 q1 hn
    subst hn
    replace hl : lv_has ls 4 [(2, .ref q1), (0, .ref a0), (1, .int x1)] := hl
    refine lv_aload_n B.1.1 B.1.2.1 dX4_prints_20 rfl (lv_at hl 0 rfl) ?_
    obtain ⟨hok, hw⟩ := hw
    refine q_getRN B h (ci := 2) (j := 7) (code := 71) rfl inT_2 (by decide) kF_RX4_168 rfl rfl rfl (by decide) dX4_prints_21 hok.1 hok.2 ?_
    obtain ⟨o2, hoo2⟩ : ∃ z, z = gR S1 71 q1 := ⟨_, rfl⟩
    rw [← hoo2]
    replace hw := hw o2 hoo2
    refine q_astore_n (i := 3) (lv' := [(3, va_rf o2), (2, .ref q1), (0, .ref a0), (1, .int x1)]) B.1.1 B.1.2.1 dX4_prints_24 rfl hl (by decide) rfl (fun ls hl9 => ?_)
    replace hl := hl9
    clear hl9
    refine q_aload_n B.1.1 B.1.2.1 dX4_prints_25 rfl (lv_at hl 0 rfl) ?_
    refine q_ifnonnull (tgt := 33) B.1.1 B.1.2.1 dX4_prints_26 (by decide) (fun hn => ?_) (fun q2 hn => ?_)
    · replace hw := hw.1 hn
      subst hn
      replace hl : lv_has ls 4 [(3, .null), (2, .ref q1), (0, .ref a0), (1, .int x1)] := hl
      refine lv_iconst (v := (0 : Int32)) B.1.1 B.1.2.1 dX4_prints_29 (by decide) ?_
      refine lv_goto (tgt := 51) B.1.1 B.1.2.1 dX4_prints_30 (by decide) ?_
      refine vx_ret ?_; exact q_iret B hr hlk h hw dX4_prints_51 (Nat.le_of_ble_eq_true rfl) (Nat.le_of_ble_eq_true rfl)
    · replace hw := hw.2 q2 hn
      subst hn
      replace hl : lv_has ls 4 [(3, .ref q2), (2, .ref q1), (0, .ref a0), (1, .int x1)] := hl
      refine lv_sipush (v := (1000 : Int32)) B.1.1 B.1.2.1 dX4_prints_33 (by decide) ?_
      refine lv_aload_n B.1.1 B.1.2.1 dX4_prints_36 rfl (lv_at hl 1 rfl) ?_
      obtain ⟨hok, hw⟩ := hw
      refine q_getIN B h (ci := 2) (j := 8) (code := 72) rfl inT_2 (by decide) kF_RX4_172 rfl rfl rfl (by decide) dX4_prints_37 hok.1 hok.2 ?_
      refine lv_imul B.1.1 B.1.2.1 dX4_prints_40 ?_
      refine lv_bipush (v := (10 : Int32)) B.1.1 B.1.2.1 dX4_prints_41 (by decide) ?_
      refine lv_aload_n B.1.1 B.1.2.1 dX4_prints_43 rfl (lv_at hl 0 rfl) ?_
      obtain ⟨hok, hw⟩ := hw
      refine q_getIN B h (ci := 3) (j := 0) (code := 96) rfl inT_3 (by decide) kF_RX4_175 rfl rfl rfl (by decide) dX4_prints_44 hok.1 hok.2 ?_
      refine lv_imul B.1.1 B.1.2.1 dX4_prints_47 ?_
      refine lv_iadd B.1.1 B.1.2.1 dX4_prints_48 ?_
      refine lv_iconst (v := (1 : Int32)) B.1.1 B.1.2.1 dX4_prints_49 (by decide) ?_
      refine lv_iadd B.1.1 B.1.2.1 dX4_prints_50 ?_
      refine vx_ret ?_; exact q_iret B hr hlk h hw dX4_prints_51 (Nat.le_of_ble_eq_true rfl) (Nat.le_of_ble_eq_true rfl)
set_option maxHeartbeats 4000000 in
set_option maxRecDepth 100000 in
theorem met_X4_dry (l : Launch) (hst : l.stackTraces = false) (a0 : Nat) (x1 : Int32) (x2 : Int32) : TI l yX4_dry cX4_dry 4 (some .int) 6 82 1 6 [.ref a0, .int x1, .int x2] (wX4_dry a0 x1 x2) := by
  refine TI.of (by decide) (Nat.le_of_ble_eq_true rfl) ?_
  intro p e s m below meth c D cs lo S Q QX ls B hr hlk hin hxt
  intro h hl hw
  replace hl : lv_has ls 4 [(0, .ref a0), (1, .int x1), (2, .int x2)] := hl
  refine lv_aload_n B.1.1 B.1.2.1 dX4_dry_0 rfl (lv_at hl 0 rfl) ?_
  refine lv_iload_n B.1.1 B.1.2.1 dX4_dry_1 rfl (lv_at hl 1 rfl) ?_
  obtain ⟨hok, hw⟩ := hw
  refine q_callOV B h (met_X4_bannerAt l a0 x1) (CB B 1 kC_X4_bannerAt kI_RX4 kM_RX4_56 hd_X4_bannerAt ⟨Nat.le_of_ble_eq_true rfl, Nat.le_of_ble_eq_true rfl⟩) kO_X4_bannerAt kV_X4_bannerAt (ci := 4) rfl (by decide) hok.1 hok.2 (rest := []) rfl rfl hl.1 (Nat.le_of_ble_eq_true rfl) dX4_dry_2 ⟨Nat.le_of_ble_eq_true rfl, Nat.le_of_ble_eq_true rfl⟩ hw (fun o1 S1 H locs hw9 h9 => ?_)
  replace hw := hw9
  clear hw9
  replace h := h9
  clear h9
  refine lv_iload_n B.1.1 B.1.2.1 dX4_dry_5 rfl (lv_at hl 2 rfl) ?_
  refine q_callOS B h (met_X4_stripAt l o1 x2) (CB B 2 kC_X4_stripAt kI_RX4 kM_RX4_87 hd_X4_stripAt ⟨Nat.le_of_ble_eq_true rfl, Nat.le_of_ble_eq_true rfl⟩) kS_X4_stripAt (rest := []) rfl rfl hl.1 (Nat.le_of_ble_eq_true rfl) dX4_dry_6 ⟨Nat.le_of_ble_eq_true rfl, Nat.le_of_ble_eq_true rfl⟩ hw (fun o2 S2 H locs hw9 h9 => ?_)
  replace hw := hw9
  clear hw9
  replace h := h9
  clear h9
  refine q_astore_n (i := 3) (lv' := [(3, va_rf o2), (0, .ref a0), (1, .int x1), (2, .int x2)]) B.1.1 B.1.2.1 dX4_dry_9 rfl hl (by decide) rfl (fun ls hl9 => ?_)
  replace hl := hl9
  clear hl9
  refine q_aload_n B.1.1 B.1.2.1 dX4_dry_10 rfl (lv_at hl 0 rfl) ?_
  refine q_ifnonnull (tgt := 24) B.1.1 B.1.2.1 dX4_dry_11 (by decide) (fun hn => ?_) (fun q1 hn => ?_)
  · replace hw := hw.1 hn
    subst hn
    replace hl : lv_has ls 4 [(3, .null), (0, .ref a0), (1, .int x1), (2, .int x2)] := hl
    exact q_throw (E := "java/lang/IndexOutOfBoundsException") (text := "banner or strip") (ic := 71) B h hst hxt hlk rfl (by decide +kernel) kL_RX4_67 kI_java_lang_IndexOutOfBoundsException (by decide) kX_71 kY_71 hl.1 dX4_dry_14 dX4_dry_17 dX4_dry_18 dX4_dry_20 dX4_dry_23 (Nat.le_of_ble_eq_true rfl) (Nat.le_of_ble_eq_true rfl) (Nat.le_of_ble_eq_true rfl) (Nat.le_of_ble_eq_true rfl) (Nat.le_of_ble_eq_true rfl) (Nat.le_of_ble_eq_true rfl) hw
  · replace hw := hw.2 q1 hn
    subst hn
    replace hl : lv_has ls 4 [(3, .ref q1), (0, .ref a0), (1, .int x1), (2, .int x2)] := hl
    refine lv_aload_n B.1.1 B.1.2.1 dX4_dry_24 rfl (lv_at hl 0 rfl) ?_
    obtain ⟨hok, hw⟩ := hw
    refine q_getIN B h (ci := 3) (j := 8) (code := 104) rfl inT_3 (by decide) kF_RX4_152 rfl rfl rfl (by decide) dX4_dry_25 hok.1 hok.2 ?_
    refine vx_ret ?_; exact q_iret B hr hlk h hw dX4_dry_28 (Nat.le_of_ble_eq_true rfl) (Nat.le_of_ble_eq_true rfl)
set_option maxHeartbeats 4000000 in
set_option maxRecDepth 100000 in
theorem met_X4_ink (l : Launch) (hst : l.stackTraces = false) (a0 : Nat) (x1 : Int32) (x2 : Int32) (x3 : Int32) : TI l yX4_ink cX4_ink 5 (some .int) 6 82 1 6 [.ref a0, .int x1, .int x2, .int x3] (wX4_ink a0 x1 x2 x3) := by
  refine TI.of (by decide) (Nat.le_of_ble_eq_true rfl) ?_
  intro p e s m below meth c D cs lo S Q QX ls B hr hlk hin hxt
  intro h hl hw
  replace hl : lv_has ls 5 [(0, .ref a0), (1, .int x1), (2, .int x2), (3, .int x3)] := hl
  refine lv_aload_n B.1.1 B.1.2.1 dX4_ink_0 rfl (lv_at hl 0 rfl) ?_
  refine lv_iload_n B.1.1 B.1.2.1 dX4_ink_1 rfl (lv_at hl 1 rfl) ?_
  obtain ⟨hok, hw⟩ := hw
  refine q_callOV B h (met_X4_bannerAt l a0 x1) (CB B 1 kC_X4_bannerAt kI_RX4 kM_RX4_56 hd_X4_bannerAt ⟨Nat.le_of_ble_eq_true rfl, Nat.le_of_ble_eq_true rfl⟩) kO_X4_bannerAt kV_X4_bannerAt (ci := 4) rfl (by decide) hok.1 hok.2 (rest := []) rfl rfl hl.1 (Nat.le_of_ble_eq_true rfl) dX4_ink_2 ⟨Nat.le_of_ble_eq_true rfl, Nat.le_of_ble_eq_true rfl⟩ hw (fun o1 S1 H locs hw9 h9 => ?_)
  replace hw := hw9
  clear hw9
  replace h := h9
  clear h9
  refine q_astore (i := 4) (lv' := [(4, va_rf o1), (0, .ref a0), (1, .int x1), (2, .int x2), (3, .int x3)]) B.1.1 B.1.2.1 dX4_ink_5 hl (by decide) rfl (fun ls hl9 => ?_)
  replace hl := hl9
  clear hl9
  refine q_aload B.1.1 B.1.2.1 dX4_ink_7 (lv_at hl 0 rfl) ?_
  refine q_ifnull (tgt := 28) B.1.1 B.1.2.1 dX4_ink_9 (by decide) (fun hn => ?_) (fun q1 hn => ?_)
  · replace hw := hw.1 hn
    subst hn
    replace hl : lv_has ls 5 [(4, .null), (0, .ref a0), (1, .int x1), (2, .int x2), (3, .int x3)] := hl
    exact q_throw (E := "java/lang/IndexOutOfBoundsException") (text := "banner, row or column") (ic := 71) B h hst hxt hlk rfl (by decide +kernel) kL_RX4_67 kI_java_lang_IndexOutOfBoundsException (by decide) kX_71 kY_71 hl.1 dX4_ink_28 dX4_ink_31 dX4_ink_32 dX4_ink_34 dX4_ink_37 (Nat.le_of_ble_eq_true rfl) (Nat.le_of_ble_eq_true rfl) (Nat.le_of_ble_eq_true rfl) (Nat.le_of_ble_eq_true rfl) (Nat.le_of_ble_eq_true rfl) (Nat.le_of_ble_eq_true rfl) hw
  · replace hw := hw.2 q1 hn
    subst hn
    replace hl : lv_has ls 5 [(4, .ref q1), (0, .ref a0), (1, .int x1), (2, .int x2), (3, .int x3)] := hl
    refine lv_iload_n B.1.1 B.1.2.1 dX4_ink_12 rfl (lv_at hl 3 rfl) ?_
    refine q_callIS B h (met_X4_isRow l x2) (CB B 1 kC_X4_isRow kI_RX4 kM_RX4_60 hd_X4_isRow ⟨Nat.le_of_ble_eq_true rfl, Nat.le_of_ble_eq_true rfl⟩) kS_X4_isRow (rest := []) rfl rfl hl.1 (Nat.le_of_ble_eq_true rfl) dX4_ink_13 ⟨Nat.le_of_ble_eq_true rfl, Nat.le_of_ble_eq_true rfl⟩ hw (fun r1 S2 H locs hw9 h9 => ?_)
    replace hw := hw9
    clear hw9
    replace h := h9
    clear h9
    refine lv_if_eq (tgt := 28) B.1.1 B.1.2.1 dX4_ink_16 (by decide) (fun hc => ?_) (fun hc => ?_)
    · replace hw := hw.1 hc
      exact q_throw (E := "java/lang/IndexOutOfBoundsException") (text := "banner, row or column") (ic := 71) B h hst hxt hlk rfl (by decide +kernel) kL_RX4_67 kI_java_lang_IndexOutOfBoundsException (by decide) kX_71 kY_71 hl.1 dX4_ink_28 dX4_ink_31 dX4_ink_32 dX4_ink_34 dX4_ink_37 (Nat.le_of_ble_eq_true rfl) (Nat.le_of_ble_eq_true rfl) (Nat.le_of_ble_eq_true rfl) (Nat.le_of_ble_eq_true rfl) (Nat.le_of_ble_eq_true rfl) (Nat.le_of_ble_eq_true rfl) hw
    · replace hw := hw.2 hc
      refine lv_aload B.1.1 B.1.2.1 dX4_ink_19 (lv_at hl 0 rfl) ?_
      refine lv_iload_n B.1.1 B.1.2.1 dX4_ink_21 rfl (lv_at hl 4 rfl) ?_
      obtain ⟨hok, hw⟩ := hw
      refine q_callIV B h (met_X0_hasColumn l q1 x3) (CB B 1 kC_X0_hasColumn kI_RX0 kM_RX4_64 hd_X0_hasColumn ⟨Nat.le_of_ble_eq_true rfl, Nat.le_of_ble_eq_true rfl⟩) kO_X0_hasColumn kV_X0_hasColumn (ci := 0) rfl (by decide) hok.1 hok.2 (rest := []) rfl rfl hl.1 (Nat.le_of_ble_eq_true rfl) dX4_ink_22 ⟨Nat.le_of_ble_eq_true rfl, Nat.le_of_ble_eq_true rfl⟩ hw (fun r2 S3 H locs hw9 h9 => ?_)
      replace hw := hw9
      clear hw9
      replace h := h9
      clear h9
      refine lv_if_ne (tgt := 38) B.1.1 B.1.2.1 dX4_ink_25 (by decide) (fun hc => ?_) (fun hc => ?_)
      · replace hw := hw.1 hc
        refine lv_aload B.1.1 B.1.2.1 dX4_ink_38 (lv_at hl 0 rfl) ?_
        refine lv_iload_n B.1.1 B.1.2.1 dX4_ink_40 rfl (lv_at hl 3 rfl) ?_
        refine lv_iload_n B.1.1 B.1.2.1 dX4_ink_41 rfl (lv_at hl 4 rfl) ?_
        obtain ⟨hok, hw⟩ := hw
        refine q_callIV B h (met_X0_inkAt l q1 x2 x3) (CB B 2 kC_X0_inkAt kI_RX0 kM_RX4_180 hd_X0_inkAt ⟨Nat.le_of_ble_eq_true rfl, Nat.le_of_ble_eq_true rfl⟩) kO_X0_inkAt kV_X0_inkAt (ci := 0) rfl (by decide) hok.1 hok.2 (rest := []) rfl rfl hl.1 (Nat.le_of_ble_eq_true rfl) dX4_ink_42 ⟨Nat.le_of_ble_eq_true rfl, Nat.le_of_ble_eq_true rfl⟩ hw (fun r3 S4 H locs hw9 h9 => ?_)
        replace hw := hw9
        clear hw9
        replace h := h9
        clear h9
        refine vx_ret ?_; exact q_iret B hr hlk h hw dX4_ink_45 (Nat.le_of_ble_eq_true rfl) (Nat.le_of_ble_eq_true rfl)
      · replace hw := hw.2 hc
        exact q_throw (E := "java/lang/IndexOutOfBoundsException") (text := "banner, row or column") (ic := 71) B h hst hxt hlk rfl (by decide +kernel) kL_RX4_67 kI_java_lang_IndexOutOfBoundsException (by decide) kX_71 kY_71 hl.1 dX4_ink_28 dX4_ink_31 dX4_ink_32 dX4_ink_34 dX4_ink_37 (Nat.le_of_ble_eq_true rfl) (Nat.le_of_ble_eq_true rfl) (Nat.le_of_ble_eq_true rfl) (Nat.le_of_ble_eq_true rfl) (Nat.le_of_ble_eq_true rfl) (Nat.le_of_ble_eq_true rfl) hw
set_option maxHeartbeats 4000000 in
set_option maxRecDepth 100000 in
theorem met_X4_spilt (l : Launch) (hst : l.stackTraces = false) (a0 : Nat) (x1 : Int32) : TI l yX4_spilt cX4_spilt 3 (some .int) 6 82 1 6 [.ref a0, .int x1] (wX4_spilt a0 x1) := by
  refine TI.of (by decide) (Nat.le_of_ble_eq_true rfl) ?_
  intro p e s m below meth c D cs lo S Q QX ls B hr hlk hin hxt
  intro h hl hw
  replace hl : lv_has ls 3 [(0, .ref a0), (1, .int x1)] := hl
  refine lv_aload_n B.1.1 B.1.2.1 dX4_spilt_0 rfl (lv_at hl 0 rfl) ?_
  refine lv_iload_n B.1.1 B.1.2.1 dX4_spilt_1 rfl (lv_at hl 1 rfl) ?_
  obtain ⟨hok, hw⟩ := hw
  refine q_callOV B h (met_X4_bannerAt l a0 x1) (CB B 1 kC_X4_bannerAt kI_RX4 kM_RX4_56 hd_X4_bannerAt ⟨Nat.le_of_ble_eq_true rfl, Nat.le_of_ble_eq_true rfl⟩) kO_X4_bannerAt kV_X4_bannerAt (ci := 4) rfl (by decide) hok.1 hok.2 (rest := []) rfl rfl hl.1 (Nat.le_of_ble_eq_true rfl) dX4_spilt_2 ⟨Nat.le_of_ble_eq_true rfl, Nat.le_of_ble_eq_true rfl⟩ hw (fun o1 S1 H locs hw9 h9 => ?_)
  replace hw := hw9
  clear hw9
  replace h := h9
  clear h9
  refine q_astore_n (i := 2) (lv' := [(2, va_rf o1), (0, .ref a0), (1, .int x1)]) B.1.1 B.1.2.1 dX4_spilt_5 rfl hl (by decide) rfl (fun ls hl9 => ?_)
  replace hl := hl9
  clear hl9
  refine q_aload_n B.1.1 B.1.2.1 dX4_spilt_6 rfl (lv_at hl 0 rfl) ?_
  refine q_ifnonnull (tgt := 20) B.1.1 B.1.2.1 dX4_spilt_7 (by decide) (fun hn => ?_) (fun q1 hn => ?_)
  · replace hw := hw.1 hn
    subst hn
    replace hl : lv_has ls 3 [(2, .null), (0, .ref a0), (1, .int x1)] := hl
    exact q_throw (E := "java/lang/IndexOutOfBoundsException") (text := "banner") (ic := 71) B h hst hxt hlk rfl (by decide +kernel) kL_RX4_67 kI_java_lang_IndexOutOfBoundsException (by decide) kX_71 kY_71 hl.1 dX4_spilt_10 dX4_spilt_13 dX4_spilt_14 dX4_spilt_16 dX4_spilt_19 (Nat.le_of_ble_eq_true rfl) (Nat.le_of_ble_eq_true rfl) (Nat.le_of_ble_eq_true rfl) (Nat.le_of_ble_eq_true rfl) (Nat.le_of_ble_eq_true rfl) (Nat.le_of_ble_eq_true rfl) hw
  · replace hw := hw.2 q1 hn
    subst hn
    replace hl : lv_has ls 3 [(2, .ref q1), (0, .ref a0), (1, .int x1)] := hl
    refine lv_aload_n B.1.1 B.1.2.1 dX4_spilt_20 rfl (lv_at hl 0 rfl) ?_
    obtain ⟨hok, hw⟩ := hw
    refine q_callIV B h (met_X0_spiltDots l q1) (CB B 0 kC_X0_spiltDots kI_RX0 kM_RX4_184 hd_X0_spiltDots ⟨Nat.le_of_ble_eq_true rfl, Nat.le_of_ble_eq_true rfl⟩) kO_X0_spiltDots kV_X0_spiltDots (ci := 0) rfl (by decide) hok.1 hok.2 (rest := []) rfl rfl hl.1 (Nat.le_of_ble_eq_true rfl) dX4_spilt_21 ⟨Nat.le_of_ble_eq_true rfl, Nat.le_of_ble_eq_true rfl⟩ hw (fun r1 S2 H locs hw9 h9 => ?_)
    replace hw := hw9
    clear hw9
    replace h := h9
    clear h9
    refine vx_ret ?_; exact q_iret B hr hlk h hw dX4_spilt_24 (Nat.le_of_ble_eq_true rfl) (Nat.le_of_ble_eq_true rfl)
set_option maxHeartbeats 4000000 in
set_option maxRecDepth 100000 in
theorem met_X4_used (l : Launch) (hst : l.stackTraces = false) (a0 : Nat) (x1 : Int32) (x2 : Int32) : TI l yX4_used cX4_used 4 (some .int) 6 82 1 6 [.ref a0, .int x1, .int x2] (wX4_used a0 x1 x2) := by
  refine TI.of (by decide) (Nat.le_of_ble_eq_true rfl) ?_
  intro p e s m below meth c D cs lo S Q QX ls B hr hlk hin hxt
  intro h hl hw
  replace hl : lv_has ls 4 [(0, .ref a0), (1, .int x1), (2, .int x2)] := hl
  refine lv_iload_n B.1.1 B.1.2.1 dX4_used_0 rfl (lv_at hl 1 rfl) ?_
  refine lv_if_eq (tgt := 29) B.1.1 B.1.2.1 dX4_used_1 (by decide) (fun hc => ?_) (fun hc => ?_)
  · replace hw := hw.1 hc
    refine lv_aload_n B.1.1 B.1.2.1 dX4_used_29 rfl (lv_at hl 0 rfl) ?_
    refine lv_iload_n B.1.1 B.1.2.1 dX4_used_30 rfl (lv_at hl 2 rfl) ?_
    obtain ⟨hok, hw⟩ := hw
    refine q_callOV B h (met_X4_printerAt l a0 x2) (CB B 1 kC_X4_printerAt kI_RX4 kM_RX4_97 hd_X4_printerAt ⟨Nat.le_of_ble_eq_true rfl, Nat.le_of_ble_eq_true rfl⟩) kO_X4_printerAt kV_X4_printerAt (ci := 4) rfl (by decide) hok.1 hok.2 (rest := []) rfl rfl hl.1 (Nat.le_of_ble_eq_true rfl) dX4_used_31 ⟨Nat.le_of_ble_eq_true rfl, Nat.le_of_ble_eq_true rfl⟩ hw (fun o1 S1 H locs hw9 h9 => ?_)
    replace hw := hw9
    clear hw9
    replace h := h9
    clear h9
    refine q_astore_n (i := 3) (lv' := [(3, va_rf o1), (0, .ref a0), (1, .int x1), (2, .int x2)]) B.1.1 B.1.2.1 dX4_used_34 rfl hl (by decide) rfl (fun ls hl9 => ?_)
    replace hl := hl9
    clear hl9
    refine q_aload_n B.1.1 B.1.2.1 dX4_used_35 rfl (lv_at hl 0 rfl) ?_
    refine q_ifnonnull (tgt := 49) B.1.1 B.1.2.1 dX4_used_36 (by decide) (fun hn => ?_) (fun q1 hn => ?_)
    · replace hw := hw.1 hn
      subst hn
      replace hl : lv_has ls 4 [(3, .null), (0, .ref a0), (1, .int x1), (2, .int x2)] := hl
      exact q_throw (E := "java/lang/IndexOutOfBoundsException") (text := "printer") (ic := 71) B h hst hxt hlk rfl (by decide +kernel) kL_RX4_67 kI_java_lang_IndexOutOfBoundsException (by decide) kX_71 kY_71 hl.1 dX4_used_39 dX4_used_42 dX4_used_43 dX4_used_45 dX4_used_48 (Nat.le_of_ble_eq_true rfl) (Nat.le_of_ble_eq_true rfl) (Nat.le_of_ble_eq_true rfl) (Nat.le_of_ble_eq_true rfl) (Nat.le_of_ble_eq_true rfl) (Nat.le_of_ble_eq_true rfl) hw
    · replace hw := hw.2 q1 hn
      subst hn
      replace hl : lv_has ls 4 [(3, .ref q1), (0, .ref a0), (1, .int x1), (2, .int x2)] := hl
      refine lv_aload_n B.1.1 B.1.2.1 dX4_used_49 rfl (lv_at hl 0 rfl) ?_
      obtain ⟨hok, hw⟩ := hw
      refine q_getIN B h (ci := 2) (j := 4) (code := 68) rfl inT_2 (by decide) kF_RX4_129 rfl rfl rfl (by decide) dX4_used_50 hok.1 hok.2 ?_
      refine vx_ret ?_; exact q_iret B hr hlk h hw dX4_used_53 (Nat.le_of_ble_eq_true rfl) (Nat.le_of_ble_eq_true rfl)
  · replace hw := hw.2 hc
    refine lv_aload_n B.1.1 B.1.2.1 dX4_used_4 rfl (lv_at hl 0 rfl) ?_
    refine lv_iload_n B.1.1 B.1.2.1 dX4_used_5 rfl (lv_at hl 2 rfl) ?_
    obtain ⟨hok, hw⟩ := hw
    refine q_callOV B h (met_X4_bannerAt l a0 x2) (CB B 1 kC_X4_bannerAt kI_RX4 kM_RX4_56 hd_X4_bannerAt ⟨Nat.le_of_ble_eq_true rfl, Nat.le_of_ble_eq_true rfl⟩) kO_X4_bannerAt kV_X4_bannerAt (ci := 4) rfl (by decide) hok.1 hok.2 (rest := []) rfl rfl hl.1 (Nat.le_of_ble_eq_true rfl) dX4_used_6 ⟨Nat.le_of_ble_eq_true rfl, Nat.le_of_ble_eq_true rfl⟩ hw (fun o2 S2 H locs hw9 h9 => ?_)
    replace hw := hw9
    clear hw9
    replace h := h9
    clear h9
    refine q_astore_n (i := 3) (lv' := [(3, va_rf o2), (0, .ref a0), (1, .int x1), (2, .int x2)]) B.1.1 B.1.2.1 dX4_used_9 rfl hl (by decide) rfl (fun ls hl9 => ?_)
    replace hl := hl9
    clear hl9
    refine q_aload_n B.1.1 B.1.2.1 dX4_used_10 rfl (lv_at hl 0 rfl) ?_
    refine q_ifnonnull (tgt := 24) B.1.1 B.1.2.1 dX4_used_11 (by decide) (fun hn => ?_) (fun q2 hn => ?_)
    · replace hw := hw.1 hn
      subst hn
      replace hl : lv_has ls 4 [(3, .null), (0, .ref a0), (1, .int x1), (2, .int x2)] := hl
      exact q_throw (E := "java/lang/IndexOutOfBoundsException") (text := "banner") (ic := 71) B h hst hxt hlk rfl (by decide +kernel) kL_RX4_67 kI_java_lang_IndexOutOfBoundsException (by decide) kX_71 kY_71 hl.1 dX4_used_14 dX4_used_17 dX4_used_18 dX4_used_20 dX4_used_23 (Nat.le_of_ble_eq_true rfl) (Nat.le_of_ble_eq_true rfl) (Nat.le_of_ble_eq_true rfl) (Nat.le_of_ble_eq_true rfl) (Nat.le_of_ble_eq_true rfl) (Nat.le_of_ble_eq_true rfl) hw
    · replace hw := hw.2 q2 hn
      subst hn
      replace hl : lv_has ls 4 [(3, .ref q2), (0, .ref a0), (1, .int x1), (2, .int x2)] := hl
      refine lv_aload_n B.1.1 B.1.2.1 dX4_used_24 rfl (lv_at hl 0 rfl) ?_
      obtain ⟨hok, hw⟩ := hw
      refine q_getIN B h (ci := 0) (j := 7) (code := 7) rfl inT_0 (by decide) kF_RX4_187 rfl rfl rfl (by decide) dX4_used_25 hok.1 hok.2 ?_
      refine vx_ret ?_; exact q_iret B hr hlk h hw dX4_used_28 (Nat.le_of_ble_eq_true rfl) (Nat.le_of_ble_eq_true rfl)
set_option maxHeartbeats 4000000 in
set_option maxRecDepth 100000 in
theorem met_X4_seam (l : Launch) (hst : l.stackTraces = false) (a0 : Nat) (x1 : Int32) (x2 : Int32) : TI l yX4_seam cX4_seam 6 (some .int) 6 116 1 6 [.ref a0, .int x1, .int x2] (wX4_seam a0 x1 x2) := by
  refine TI.of (by decide) (Nat.le_of_ble_eq_true rfl) ?_
  intro p e s m below meth c D cs lo S Q QX ls B hr hlk hin hxt
  have J29 : ∀ (v3 : Option Nat) (v4 : Option Nat) (t0 : Option Nat) (S : HS) (H : Heap) (locs : List Loc) (ls : Array Slot), Hx D cs lo s S H locs → lv_has ls 6 [(3, va_rf v3), (4, va_rf v4)] → wX4_seam_J29 v3 v4 t0 S Q QX → W p l e ({ frames := 6, cells := 1, slots := 6, locals := 116 } : Room) s m [.ref a0, .int x1, .int x2].toArray below meth c H locs 0 0 (vx_MQ below (va_Qi Q (fun S' t => hp D cs lo S' t.heap) (fun q => lo ≤ q)) (vx_X (fun _ : HS => True) (fun E S' t => QX E S' ∧ hp D cs lo S' t.heap) (fun q => lo ≤ q)) [.ref a0, .int x1, .int x2].toArray s 1 6 (fun q => lo ≤ q)) (F0 m 29 ls [va_rf t0]) := by
    intro v3 v4 t0 S H locs ls h hl hw
    refine q_astore (i := 5) (lv' := [(5, va_rf t0), (3, va_rf v3), (4, va_rf v4)]) B.1.1 B.1.2.1 dX4_seam_29 hl (by decide) (by simp [List.filter, rf_cat, cat_i, cat_r, cat_n]) (fun ls hl9 => ?_)
    replace hl := hl9
    clear hl9
    refine q_aload_n B.1.1 B.1.2.1 dX4_seam_31 rfl (lv_at hl 1 rfl) ?_
    refine q_ifnull (tgt := 45) B.1.1 B.1.2.1 dX4_seam_32 (by decide) (fun hn => ?_) (fun q2 hn => ?_)
    · replace hw := hw.1 hn
      subst hn
      replace hl : lv_has ls 6 [(5, va_rf t0), (3, .null), (4, va_rf v4)] := hl
      exact q_throw (E := "java/lang/IndexOutOfBoundsException") (text := "banner or seam") (ic := 71) B h hst hxt hlk rfl (by decide +kernel) kL_RX4_67 kI_java_lang_IndexOutOfBoundsException (by decide) kX_71 kY_71 hl.1 dX4_seam_45 dX4_seam_48 dX4_seam_49 dX4_seam_51 dX4_seam_54 (Nat.le_of_ble_eq_true rfl) (Nat.le_of_ble_eq_true rfl) (Nat.le_of_ble_eq_true rfl) (Nat.le_of_ble_eq_true rfl) (Nat.le_of_ble_eq_true rfl) (Nat.le_of_ble_eq_true rfl) hw
    · replace hw := hw.2 q2 hn
      subst hn
      replace hl : lv_has ls 6 [(5, va_rf t0), (3, .ref q2), (4, va_rf v4)] := hl
      refine q_aload B.1.1 B.1.2.1 dX4_seam_35 (lv_at hl 2 rfl) ?_
      refine q_ifnull (tgt := 45) B.1.1 B.1.2.1 dX4_seam_37 (by decide) (fun hn => ?_) (fun q3 hn => ?_)
      · replace hw := hw.1 hn
        subst hn
        replace hl : lv_has ls 6 [(5, va_rf t0), (3, .ref q2), (4, .null)] := hl
        exact q_throw (E := "java/lang/IndexOutOfBoundsException") (text := "banner or seam") (ic := 71) B h hst hxt hlk rfl (by decide +kernel) kL_RX4_67 kI_java_lang_IndexOutOfBoundsException (by decide) kX_71 kY_71 hl.1 dX4_seam_45 dX4_seam_48 dX4_seam_49 dX4_seam_51 dX4_seam_54 (Nat.le_of_ble_eq_true rfl) (Nat.le_of_ble_eq_true rfl) (Nat.le_of_ble_eq_true rfl) (Nat.le_of_ble_eq_true rfl) (Nat.le_of_ble_eq_true rfl) (Nat.le_of_ble_eq_true rfl) hw
      · replace hw := hw.2 q3 hn
        subst hn
        replace hl : lv_has ls 6 [(5, va_rf t0), (3, .ref q2), (4, .ref q3)] := hl
        refine q_aload B.1.1 B.1.2.1 dX4_seam_40 (lv_at hl 0 rfl) ?_
        refine q_ifnonnull (tgt := 55) B.1.1 B.1.2.1 dX4_seam_42 (by decide) (fun hn => ?_) (fun q4 hn => ?_)
        · replace hw := hw.1 hn
          subst hn
          replace hl : lv_has ls 6 [(5, .null), (3, .ref q2), (4, .ref q3)] := hl
          exact q_throw (E := "java/lang/IndexOutOfBoundsException") (text := "banner or seam") (ic := 71) B h hst hxt hlk rfl (by decide +kernel) kL_RX4_67 kI_java_lang_IndexOutOfBoundsException (by decide) kX_71 kY_71 hl.1 dX4_seam_45 dX4_seam_48 dX4_seam_49 dX4_seam_51 dX4_seam_54 (Nat.le_of_ble_eq_true rfl) (Nat.le_of_ble_eq_true rfl) (Nat.le_of_ble_eq_true rfl) (Nat.le_of_ble_eq_true rfl) (Nat.le_of_ble_eq_true rfl) (Nat.le_of_ble_eq_true rfl) hw
        · replace hw := hw.2 q4 hn
          subst hn
          replace hl : lv_has ls 6 [(5, .ref q4), (3, .ref q2), (4, .ref q3)] := hl
          refine lv_aload B.1.1 B.1.2.1 dX4_seam_55 (lv_at hl 2 rfl) ?_
          obtain ⟨hok, hw⟩ := hw
          refine q_callIV B h (met_X3_wasPrinted l q3) (CB B 0 kC_X3_wasPrinted kI_RX3 kM_RX4_192 hd_X3_wasPrinted ⟨Nat.le_of_ble_eq_true rfl, Nat.le_of_ble_eq_true rfl⟩) kO_X3_wasPrinted kV_X3_wasPrinted (ci := 3) rfl (by decide) hok.1 hok.2 (rest := []) rfl rfl hl.1 (Nat.le_of_ble_eq_true rfl) dX4_seam_57 ⟨Nat.le_of_ble_eq_true rfl, Nat.le_of_ble_eq_true rfl⟩ hw (fun r1 S3 H locs hw9 h9 => ?_)
          replace hw := hw9
          clear hw9
          replace h := h9
          clear h9
          refine lv_if_eq (tgt := 71) B.1.1 B.1.2.1 dX4_seam_60 (by decide) (fun hc => ?_) (fun hc => ?_)
          · replace hw := hw.1 hc
            exact q_throw (E := "java/lang/IllegalStateException") (text := "a strip was not printed") (ic := 52) B h hst hxt hlk rfl (by decide +kernel) kL_RX4_48 kI_java_lang_IllegalStateException (by decide) kX_52 kY_52 hl.1 dX4_seam_71 dX4_seam_74 dX4_seam_75 dX4_seam_77 dX4_seam_80 (Nat.le_of_ble_eq_true rfl) (Nat.le_of_ble_eq_true rfl) (Nat.le_of_ble_eq_true rfl) (Nat.le_of_ble_eq_true rfl) (Nat.le_of_ble_eq_true rfl) (Nat.le_of_ble_eq_true rfl) hw
          · replace hw := hw.2 hc
            refine lv_aload B.1.1 B.1.2.1 dX4_seam_63 (lv_at hl 0 rfl) ?_
            obtain ⟨hok, hw⟩ := hw
            refine q_callIV B h (met_X3_wasPrinted l q4) (CB B 0 kC_X3_wasPrinted kI_RX3 kM_RX4_192 hd_X3_wasPrinted ⟨Nat.le_of_ble_eq_true rfl, Nat.le_of_ble_eq_true rfl⟩) kO_X3_wasPrinted kV_X3_wasPrinted (ci := 3) rfl (by decide) hok.1 hok.2 (rest := []) rfl rfl hl.1 (Nat.le_of_ble_eq_true rfl) dX4_seam_65 ⟨Nat.le_of_ble_eq_true rfl, Nat.le_of_ble_eq_true rfl⟩ hw (fun r2 S4 H locs hw9 h9 => ?_)
            replace hw := hw9
            clear hw9
            replace h := h9
            clear h9
            refine lv_if_ne (tgt := 81) B.1.1 B.1.2.1 dX4_seam_68 (by decide) (fun hc => ?_) (fun hc => ?_)
            · replace hw := hw.1 hc
              refine lv_aload_n B.1.1 B.1.2.1 dX4_seam_81 rfl (lv_at hl 1 rfl) ?_
              refine lv_aload B.1.1 B.1.2.1 dX4_seam_82 (lv_at hl 2 rfl) ?_
              refine lv_aload B.1.1 B.1.2.1 dX4_seam_84 (lv_at hl 0 rfl) ?_
              obtain ⟨hok, hw⟩ := hw
              refine q_callIV B h (met_X0_seamError l q2 (some q3) (some q4)) (CB B 2 kC_X0_seamError kI_RX0 kM_RX4_197 hd_X0_seamError ⟨Nat.le_of_ble_eq_true rfl, Nat.le_of_ble_eq_true rfl⟩) kO_X0_seamError kV_X0_seamError (ci := 0) rfl (by decide) hok.1 hok.2 (rest := []) rfl rfl hl.1 (Nat.le_of_ble_eq_true rfl) dX4_seam_86 ⟨Nat.le_of_ble_eq_true rfl, Nat.le_of_ble_eq_true rfl⟩ hw (fun r3 S5 H locs hw9 h9 => ?_)
              replace hw := hw9
              clear hw9
              replace h := h9
              clear h9
              refine vx_ret ?_; exact q_iret B hr hlk h hw dX4_seam_89 (Nat.le_of_ble_eq_true rfl) (Nat.le_of_ble_eq_true rfl)
            · replace hw := hw.2 hc
              exact q_throw (E := "java/lang/IllegalStateException") (text := "a strip was not printed") (ic := 52) B h hst hxt hlk rfl (by decide +kernel) kL_RX4_48 kI_java_lang_IllegalStateException (by decide) kX_52 kY_52 hl.1 dX4_seam_71 dX4_seam_74 dX4_seam_75 dX4_seam_77 dX4_seam_80 (Nat.le_of_ble_eq_true rfl) (Nat.le_of_ble_eq_true rfl) (Nat.le_of_ble_eq_true rfl) (Nat.le_of_ble_eq_true rfl) (Nat.le_of_ble_eq_true rfl) (Nat.le_of_ble_eq_true rfl) hw
  intro h hl hw
  replace hl : lv_has ls 6 [(0, .ref a0), (1, .int x1), (2, .int x2)] := hl
  refine lv_aload_n B.1.1 B.1.2.1 dX4_seam_0 rfl (lv_at hl 0 rfl) ?_
  refine lv_iload_n B.1.1 B.1.2.1 dX4_seam_1 rfl (lv_at hl 1 rfl) ?_
  obtain ⟨hok, hw⟩ := hw
  refine q_callOV B h (met_X4_bannerAt l a0 x1) (CB B 1 kC_X4_bannerAt kI_RX4 kM_RX4_56 hd_X4_bannerAt ⟨Nat.le_of_ble_eq_true rfl, Nat.le_of_ble_eq_true rfl⟩) kO_X4_bannerAt kV_X4_bannerAt (ci := 4) rfl (by decide) hok.1 hok.2 (rest := []) rfl rfl hl.1 (Nat.le_of_ble_eq_true rfl) dX4_seam_2 ⟨Nat.le_of_ble_eq_true rfl, Nat.le_of_ble_eq_true rfl⟩ hw (fun o1 S1 H locs hw9 h9 => ?_)
  replace hw := hw9
  clear hw9
  replace h := h9
  clear h9
  refine q_astore_n (i := 3) (lv' := [(3, va_rf o1), (0, .ref a0), (1, .int x1), (2, .int x2)]) B.1.1 B.1.2.1 dX4_seam_5 rfl hl (by decide) rfl (fun ls hl9 => ?_)
  replace hl := hl9
  clear hl9
  refine q_aload_n B.1.1 B.1.2.1 dX4_seam_6 rfl (lv_at hl 0 rfl) ?_
  refine lv_iload_n B.1.1 B.1.2.1 dX4_seam_7 rfl (lv_at hl 3 rfl) ?_
  refine q_callOS B h (met_X4_stripAt l o1 x2) (CB B 2 kC_X4_stripAt kI_RX4 kM_RX4_87 hd_X4_stripAt ⟨Nat.le_of_ble_eq_true rfl, Nat.le_of_ble_eq_true rfl⟩) kS_X4_stripAt (rest := []) rfl rfl hl.1 (Nat.le_of_ble_eq_true rfl) dX4_seam_8 ⟨Nat.le_of_ble_eq_true rfl, Nat.le_of_ble_eq_true rfl⟩ hw (fun o2 S2 H locs hw9 h9 => ?_)
  replace hw := hw9
  clear hw9
  replace h := h9
  clear h9
  refine q_astore (i := 4) (lv' := [(4, va_rf o2), (3, va_rf o1), (0, .ref a0), (1, .int x1), (2, .int x2)]) B.1.1 B.1.2.1 dX4_seam_11 hl (by decide) (by simp [List.filter, rf_cat, cat_i, cat_r, cat_n]) (fun ls hl9 => ?_)
  replace hl := hl9
  clear hl9
  refine q_aload B.1.1 B.1.2.1 dX4_seam_13 (lv_at hl 0 rfl) ?_
  refine q_ifnonnull (tgt := 22) B.1.1 B.1.2.1 dX4_seam_15 (by decide) (fun hn => ?_) (fun q1 hn => ?_)
  · replace hw := hw.1 hn
    subst hn
    replace hl : lv_has ls 6 [(4, .null), (3, va_rf o1), (0, .ref a0), (1, .int x1), (2, .int x2)] := hl
    refine lv_null B.1.1 B.1.2.1 dX4_seam_18 ?_
    refine lv_goto (tgt := 29) B.1.1 B.1.2.1 dX4_seam_19 (by decide) ?_
    exact J29 o1 none none _ _ _ ls h (lv_sub hl [1, 0] rfl) hw
  · replace hw := hw.2 q1 hn
    subst hn
    replace hl : lv_has ls 6 [(4, .ref q1), (3, va_rf o1), (0, .ref a0), (1, .int x1), (2, .int x2)] := hl
    refine q_aload_n B.1.1 B.1.2.1 dX4_seam_22 rfl (lv_at hl 1 rfl) ?_
    refine lv_iload_n B.1.1 B.1.2.1 dX4_seam_23 rfl (lv_at hl 4 rfl) ?_
    refine lv_iconst (v := (1 : Int32)) B.1.1 B.1.2.1 dX4_seam_24 (by decide) ?_
    refine lv_iadd B.1.1 B.1.2.1 dX4_seam_25 ?_
    refine q_callOS B h (met_X4_stripAt l o1 (x2 + (1 : Int32))) (CB B 2 kC_X4_stripAt kI_RX4 kM_RX4_87 hd_X4_stripAt ⟨Nat.le_of_ble_eq_true rfl, Nat.le_of_ble_eq_true rfl⟩) kS_X4_stripAt (rest := []) rfl rfl hl.1 (Nat.le_of_ble_eq_true rfl) dX4_seam_26 ⟨Nat.le_of_ble_eq_true rfl, Nat.le_of_ble_eq_true rfl⟩ hw (fun o3 S6 H locs hw9 h9 => ?_)
    replace hw := hw9
    clear hw9
    replace h := h9
    clear h9
    exact J29 o1 (some q1) o3 _ _ _ ls h (lv_sub hl [1, 0] rfl) hw
set_option maxHeartbeats 4000000 in
set_option maxRecDepth 100000 in
theorem met_X4_meanError (l : Launch) (hst : l.stackTraces = false) (a0 : Nat) (x1 : Int32) : TF l yX4_meanError cX4_meanError 4 (some .float) 6 112 1 6 [.ref a0, .int x1] (wX4_meanError a0 x1) := by
  refine TF.of (by decide) (Nat.le_of_ble_eq_true rfl) ?_
  intro p e s m below meth c D cs lo S Q QX ls B hr hlk hin hxt
  intro h hl hw
  replace hl : lv_has ls 4 [(0, .ref a0), (1, .int x1)] := hl
  refine lv_aload_n B.1.1 B.1.2.1 dX4_meanError_0 rfl (lv_at hl 0 rfl) ?_
  refine lv_iload_n B.1.1 B.1.2.1 dX4_meanError_1 rfl (lv_at hl 1 rfl) ?_
  obtain ⟨hok, hw⟩ := hw
  refine q_callOV B h (met_X4_bannerAt l a0 x1) (CB B 1 kC_X4_bannerAt kI_RX4 kM_RX4_56 hd_X4_bannerAt ⟨Nat.le_of_ble_eq_true rfl, Nat.le_of_ble_eq_true rfl⟩) kO_X4_bannerAt kV_X4_bannerAt (ci := 4) rfl (by decide) hok.1 hok.2 (rest := []) rfl rfl hl.1 (Nat.le_of_ble_eq_true rfl) dX4_meanError_2 ⟨Nat.le_of_ble_eq_true rfl, Nat.le_of_ble_eq_true rfl⟩ hw (fun o1 S1 H locs hw9 h9 => ?_)
  replace hw := hw9
  clear hw9
  replace h := h9
  clear h9
  refine q_astore_n (i := 2) (lv' := [(2, va_rf o1), (0, .ref a0), (1, .int x1)]) B.1.1 B.1.2.1 dX4_meanError_5 rfl hl (by decide) rfl (fun ls hl9 => ?_)
  replace hl := hl9
  clear hl9
  refine q_aload_n B.1.1 B.1.2.1 dX4_meanError_6 rfl (lv_at hl 0 rfl) ?_
  refine q_ifnonnull (tgt := 20) B.1.1 B.1.2.1 dX4_meanError_7 (by decide) (fun hn => ?_) (fun q1 hn => ?_)
  · replace hw := hw.1 hn
    subst hn
    replace hl : lv_has ls 4 [(2, .null), (0, .ref a0), (1, .int x1)] := hl
    exact q_throw (E := "java/lang/IndexOutOfBoundsException") (text := "banner") (ic := 71) B h hst hxt hlk rfl (by decide +kernel) kL_RX4_67 kI_java_lang_IndexOutOfBoundsException (by decide) kX_71 kY_71 hl.1 dX4_meanError_10 dX4_meanError_13 dX4_meanError_14 dX4_meanError_16 dX4_meanError_19 (Nat.le_of_ble_eq_true rfl) (Nat.le_of_ble_eq_true rfl) (Nat.le_of_ble_eq_true rfl) (Nat.le_of_ble_eq_true rfl) (Nat.le_of_ble_eq_true rfl) (Nat.le_of_ble_eq_true rfl) hw
  · replace hw := hw.2 q1 hn
    subst hn
    replace hl : lv_has ls 4 [(2, .ref q1), (0, .ref a0), (1, .int x1)] := hl
    refine lv_bipush (v := (8 : Int32)) B.1.1 B.1.2.1 dX4_meanError_20 (by decide) ?_
    refine lv_aload_n B.1.1 B.1.2.1 dX4_meanError_22 rfl (lv_at hl 0 rfl) ?_
    obtain ⟨hok, hw⟩ := hw
    refine q_getIN B h (ci := 0) (j := 0) (code := 0) rfl inT_0 (by decide) kF_RX4_72 rfl rfl rfl (by decide) dX4_meanError_23 hok.1 hok.2 ?_
    refine lv_imul B.1.1 B.1.2.1 dX4_meanError_26 ?_
    refine lv_istore_n (i := 3) (lv' := [(3, .int ((8 : Int32) * (gI S1 0 q1))), (2, .ref q1), (0, .ref a0), (1, .int x1)]) B.1.1 B.1.2.1 dX4_meanError_27 rfl hl (by decide) rfl (fun ls hl9 => ?_)
    replace hl := hl9
    clear hl9
    refine lv_iload_n B.1.1 B.1.2.1 dX4_meanError_28 rfl (lv_at hl 0 rfl) ?_
    refine lv_iconst (v := (1 : Int32)) B.1.1 B.1.2.1 dX4_meanError_29 (by decide) ?_
    refine lv_icmp_ge (tgt := 37) B.1.1 B.1.2.1 dX4_meanError_30 (by decide) (fun hc => ?_) (fun hc => ?_)
    · replace hw := hw.1 hc
      refine lv_aload_n B.1.1 B.1.2.1 dX4_meanError_37 rfl (lv_at hl 1 rfl) ?_
      obtain ⟨hok, hw⟩ := hw
      refine q_callIV B h (met_X0_errorSum l q1) (CB B 0 kC_X0_errorSum kI_RX0 kM_RX4_201 hd_X0_errorSum ⟨Nat.le_of_ble_eq_true rfl, Nat.le_of_ble_eq_true rfl⟩) kO_X0_errorSum kV_X0_errorSum (ci := 0) rfl (by decide) hok.1 hok.2 (rest := []) rfl rfl hl.1 (Nat.le_of_ble_eq_true rfl) dX4_meanError_38 ⟨Nat.le_of_ble_eq_true rfl, Nat.le_of_ble_eq_true rfl⟩ hw (fun r1 S2 H locs hw9 h9 => ?_)
      replace hw := hw9
      clear hw9
      replace h := h9
      clear h9
      refine lv_i2f B.1.1 B.1.2.1 dX4_meanError_41 ?_
      refine lv_iload_n B.1.1 B.1.2.1 dX4_meanError_42 rfl (lv_at hl 0 rfl) ?_
      refine lv_i2f B.1.1 B.1.2.1 dX4_meanError_43 ?_
      obtain ⟨hne, hw⟩ := hw
      refine lv_fdiv B.1.1 B.1.2.1 dX4_meanError_44 hne ?_
      refine vx_ret ?_; exact q_fret B hr hlk h hw dX4_meanError_45 (Nat.le_of_ble_eq_true rfl) (Nat.le_of_ble_eq_true rfl)
    · replace hw := hw.2 hc
      refine lv_fconst0 B.1.1 B.1.2.1 dX4_meanError_33 ?_
      refine lv_goto (tgt := 45) B.1.1 B.1.2.1 dX4_meanError_34 (by decide) ?_
      refine vx_ret ?_; exact q_fret B hr hlk h hw dX4_meanError_45 (Nat.le_of_ble_eq_true rfl) (Nat.le_of_ble_eq_true rfl)
