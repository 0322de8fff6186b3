theorem dL_begin_0 : decode cL_begin 0 = .ok (.aload 6, 2) := by decide +kernel
theorem dL_begin_2 : decode cL_begin 2 = .ok (.iconst 0, 1) := by decide +kernel
theorem dL_begin_3 : decode cL_begin 3 = .ok (.aload_n 0, 1) := by decide +kernel
theorem dL_begin_4 : decode cL_begin 4 = .ok (.iload_n 1, 1) := by decide +kernel
theorem dL_begin_5 : decode cL_begin 5 = .ok (.iload_n 2, 1) := by decide +kernel
theorem dL_begin_6 : decode cL_begin 6 = .ok (.iload_n 3, 1) := by decide +kernel
theorem dL_begin_7 : decode cL_begin 7 = .ok (.iload 4, 2) := by decide +kernel
theorem dL_begin_9 : decode cL_begin 9 = .ok (.iload 5, 2) := by decide +kernel
theorem dL_begin_11 : decode cL_begin 11 = .ok (.invokevirtual 7, 3) := by decide +kernel
theorem dL_begin_14 : decode cL_begin 14 = .ok (.i2l, 1) := by decide +kernel
theorem dL_begin_15 : decode cL_begin 15 = .ok (.lastore, 1) := by decide +kernel
theorem dL_begin_16 : decode cL_begin 16 = .ok (.goto 11, 3) := by decide +kernel
theorem dL_begin_19 : decode cL_begin 19 = .ok (.astore 7, 2) := by decide +kernel
theorem dL_begin_21 : decode cL_begin 21 = .ok (.iconst 1, 1) := by decide +kernel
theorem dL_begin_22 : decode cL_begin 22 = .ok (.ireturn, 1) := by decide +kernel
theorem dL_begin_23 : decode cL_begin 23 = .ok (.astore 7, 2) := by decide +kernel
theorem dL_begin_25 : decode cL_begin 25 = .ok (.iconst 2, 1) := by decide +kernel
theorem dL_begin_26 : decode cL_begin 26 = .ok (.ireturn, 1) := by decide +kernel
theorem dL_begin_27 : decode cL_begin 27 = .ok (.iconst 0, 1) := by decide +kernel
theorem dL_begin_28 : decode cL_begin 28 = .ok (.ireturn, 1) := by decide +kernel
theorem dL_fill_0 : decode cL_fill 0 = .ok (.aload 6, 2) := by decide +kernel
theorem dL_fill_2 : decode cL_fill 2 = .ok (.iconst 0, 1) := by decide +kernel
theorem dL_fill_3 : decode cL_fill 3 = .ok (.aload_n 0, 1) := by decide +kernel
theorem dL_fill_4 : decode cL_fill 4 = .ok (.iload_n 1, 1) := by decide +kernel
theorem dL_fill_5 : decode cL_fill 5 = .ok (.iload_n 2, 1) := by decide +kernel
theorem dL_fill_6 : decode cL_fill 6 = .ok (.iload_n 3, 1) := by decide +kernel
theorem dL_fill_7 : decode cL_fill 7 = .ok (.iload 4, 2) := by decide +kernel
theorem dL_fill_9 : decode cL_fill 9 = .ok (.iload 5, 2) := by decide +kernel
theorem dL_fill_11 : decode cL_fill 11 = .ok (.invokevirtual 17, 3) := by decide +kernel
theorem dL_fill_14 : decode cL_fill 14 = .ok (.i2l, 1) := by decide +kernel
theorem dL_fill_15 : decode cL_fill 15 = .ok (.lastore, 1) := by decide +kernel
theorem dL_fill_16 : decode cL_fill 16 = .ok (.goto 11, 3) := by decide +kernel
theorem dL_fill_19 : decode cL_fill 19 = .ok (.astore 7, 2) := by decide +kernel
theorem dL_fill_21 : decode cL_fill 21 = .ok (.iconst 1, 1) := by decide +kernel
theorem dL_fill_22 : decode cL_fill 22 = .ok (.ireturn, 1) := by decide +kernel
theorem dL_fill_23 : decode cL_fill 23 = .ok (.astore 7, 2) := by decide +kernel
theorem dL_fill_25 : decode cL_fill 25 = .ok (.iconst 2, 1) := by decide +kernel
theorem dL_fill_26 : decode cL_fill 26 = .ok (.ireturn, 1) := by decide +kernel
theorem dL_fill_27 : decode cL_fill 27 = .ok (.iconst 0, 1) := by decide +kernel
theorem dL_fill_28 : decode cL_fill 28 = .ok (.ireturn, 1) := by decide +kernel
theorem dL_strips_0 : decode cL_strips 0 = .ok (.aload_n 2, 1) := by decide +kernel
theorem dL_strips_1 : decode cL_strips 1 = .ok (.iconst 0, 1) := by decide +kernel
theorem dL_strips_2 : decode cL_strips 2 = .ok (.aload_n 0, 1) := by decide +kernel
theorem dL_strips_3 : decode cL_strips 3 = .ok (.iload_n 1, 1) := by decide +kernel
theorem dL_strips_4 : decode cL_strips 4 = .ok (.invokevirtual 22, 3) := by decide +kernel
theorem dL_strips_7 : decode cL_strips 7 = .ok (.i2l, 1) := by decide +kernel
theorem dL_strips_8 : decode cL_strips 8 = .ok (.lastore, 1) := by decide +kernel
theorem dL_strips_9 : decode cL_strips 9 = .ok (.goto 6, 3) := by decide +kernel
theorem dL_strips_12 : decode cL_strips 12 = .ok (.astore_n 3, 1) := by decide +kernel
theorem dL_strips_13 : decode cL_strips 13 = .ok (.iconst 1, 1) := by decide +kernel
theorem dL_strips_14 : decode cL_strips 14 = .ok (.ireturn, 1) := by decide +kernel
theorem dL_strips_15 : decode cL_strips 15 = .ok (.iconst 0, 1) := by decide +kernel
theorem dL_strips_16 : decode cL_strips 16 = .ok (.ireturn, 1) := by decide +kernel
theorem dL_toLay_0 : decode cL_toLay 0 = .ok (.aload 5, 2) := by decide +kernel
theorem dL_toLay_2 : decode cL_toLay 2 = .ok (.iconst 0, 1) := by decide +kernel
theorem dL_toLay_3 : decode cL_toLay 3 = .ok (.aload_n 0, 1) := by decide +kernel
theorem dL_toLay_4 : decode cL_toLay 4 = .ok (.iload_n 1, 1) := by decide +kernel
theorem dL_toLay_5 : decode cL_toLay 5 = .ok (.iload_n 2, 1) := by decide +kernel
theorem dL_toLay_6 : decode cL_toLay 6 = .ok (.iload_n 3, 1) := by decide +kernel
theorem dL_toLay_7 : decode cL_toLay 7 = .ok (.iload 4, 2) := by decide +kernel
theorem dL_toLay_9 : decode cL_toLay 9 = .ok (.invokevirtual 26, 3) := by decide +kernel
theorem dL_toLay_12 : decode cL_toLay 12 = .ok (.i2l, 1) := by decide +kernel
theorem dL_toLay_13 : decode cL_toLay 13 = .ok (.lastore, 1) := by decide +kernel
theorem dL_toLay_14 : decode cL_toLay 14 = .ok (.goto 7, 3) := by decide +kernel
theorem dL_toLay_17 : decode cL_toLay 17 = .ok (.astore 6, 2) := by decide +kernel
theorem dL_toLay_19 : decode cL_toLay 19 = .ok (.iconst 1, 1) := by decide +kernel
theorem dL_toLay_20 : decode cL_toLay 20 = .ok (.ireturn, 1) := by decide +kernel
theorem dL_toLay_21 : decode cL_toLay 21 = .ok (.iconst 0, 1) := by decide +kernel
theorem dL_toLay_22 : decode cL_toLay 22 = .ok (.ireturn, 1) := by decide +kernel
theorem dL_setGain_0 : decode cL_setGain 0 = .ok (.aload_n 3, 1) := by decide +kernel
theorem dL_setGain_1 : decode cL_setGain 1 = .ok (.iconst 0, 1) := by decide +kernel
theorem dL_setGain_2 : decode cL_setGain 2 = .ok (.aload_n 0, 1) := by decide +kernel
theorem dL_setGain_3 : decode cL_setGain 3 = .ok (.iload_n 1, 1) := by decide +kernel
theorem dL_setGain_4 : decode cL_setGain 4 = .ok (.iload_n 2, 1) := by decide +kernel
theorem dL_setGain_5 : decode cL_setGain 5 = .ok (.invokevirtual 30, 3) := by decide +kernel
theorem dL_setGain_8 : decode cL_setGain 8 = .ok (.i2l, 1) := by decide +kernel
theorem dL_setGain_9 : decode cL_setGain 9 = .ok (.lastore, 1) := by decide +kernel
theorem dL_setGain_10 : decode cL_setGain 10 = .ok (.goto 11, 3) := by decide +kernel
theorem dL_setGain_13 : decode cL_setGain 13 = .ok (.astore 4, 2) := by decide +kernel
theorem dL_setGain_15 : decode cL_setGain 15 = .ok (.iconst 1, 1) := by decide +kernel
theorem dL_setGain_16 : decode cL_setGain 16 = .ok (.ireturn, 1) := by decide +kernel
theorem dL_setGain_17 : decode cL_setGain 17 = .ok (.astore 4, 2) := by decide +kernel
theorem dL_setGain_19 : decode cL_setGain 19 = .ok (.iconst 2, 1) := by decide +kernel
theorem dL_setGain_20 : decode cL_setGain 20 = .ok (.ireturn, 1) := by decide +kernel
theorem dL_setGain_21 : decode cL_setGain 21 = .ok (.iconst 0, 1) := by decide +kernel
theorem dL_setGain_22 : decode cL_setGain 22 = .ok (.ireturn, 1) := by decide +kernel
theorem dL_match_0 : decode cL_match 0 = .ok (.aload_n 2, 1) := by decide +kernel
theorem dL_match_1 : decode cL_match 1 = .ok (.iconst 0, 1) := by decide +kernel
theorem dL_match_2 : decode cL_match 2 = .ok (.aload_n 0, 1) := by decide +kernel
theorem dL_match_3 : decode cL_match 3 = .ok (.iload_n 1, 1) := by decide +kernel
theorem dL_match_4 : decode cL_match 4 = .ok (.invokevirtual 34, 3) := by decide +kernel
theorem dL_match_7 : decode cL_match 7 = .ok (.i2l, 1) := by decide +kernel
theorem dL_match_8 : decode cL_match 8 = .ok (.lastore, 1) := by decide +kernel
theorem dL_match_9 : decode cL_match 9 = .ok (.goto 6, 3) := by decide +kernel
theorem dL_match_12 : decode cL_match 12 = .ok (.astore_n 3, 1) := by decide +kernel
theorem dL_match_13 : decode cL_match 13 = .ok (.iconst 1, 1) := by decide +kernel
theorem dL_match_14 : decode cL_match 14 = .ok (.ireturn, 1) := by decide +kernel
theorem dL_match_15 : decode cL_match 15 = .ok (.iconst 0, 1) := by decide +kernel
theorem dL_match_16 : decode cL_match 16 = .ok (.ireturn, 1) := by decide +kernel
theorem dL_block_0 : decode cL_block 0 = .ok (.aload_n 3, 1) := by decide +kernel
theorem dL_block_1 : decode cL_block 1 = .ok (.iconst 0, 1) := by decide +kernel
theorem dL_block_2 : decode cL_block 2 = .ok (.aload_n 0, 1) := by decide +kernel
theorem dL_block_3 : decode cL_block 3 = .ok (.iload_n 1, 1) := by decide +kernel
theorem dL_block_4 : decode cL_block 4 = .ok (.iload_n 2, 1) := by decide +kernel
theorem dL_block_5 : decode cL_block 5 = .ok (.invokevirtual 37, 3) := by decide +kernel
theorem dL_block_8 : decode cL_block 8 = .ok (.i2l, 1) := by decide +kernel
theorem dL_block_9 : decode cL_block 9 = .ok (.lastore, 1) := by decide +kernel
theorem dL_block_10 : decode cL_block 10 = .ok (.goto 7, 3) := by decide +kernel
theorem dL_block_13 : decode cL_block 13 = .ok (.astore 4, 2) := by decide +kernel
theorem dL_block_15 : decode cL_block 15 = .ok (.iconst 1, 1) := by decide +kernel
theorem dL_block_16 : decode cL_block 16 = .ok (.ireturn, 1) := by decide +kernel
theorem dL_block_17 : decode cL_block 17 = .ok (.iconst 0, 1) := by decide +kernel
theorem dL_block_18 : decode cL_block 18 = .ok (.ireturn, 1) := by decide +kernel
theorem dL_clean_0 : decode cL_clean 0 = .ok (.aload_n 2, 1) := by decide +kernel
theorem dL_clean_1 : decode cL_clean 1 = .ok (.iconst 0, 1) := by decide +kernel
theorem dL_clean_2 : decode cL_clean 2 = .ok (.aload_n 0, 1) := by decide +kernel
theorem dL_clean_3 : decode cL_clean 3 = .ok (.iload_n 1, 1) := by decide +kernel
theorem dL_clean_4 : decode cL_clean 4 = .ok (.invokevirtual 40, 3) := by decide +kernel
theorem dL_clean_7 : decode cL_clean 7 = .ok (.i2l, 1) := by decide +kernel
theorem dL_clean_8 : decode cL_clean 8 = .ok (.lastore, 1) := by decide +kernel
theorem dL_clean_9 : decode cL_clean 9 = .ok (.goto 9, 3) := by decide +kernel
theorem dL_clean_12 : decode cL_clean 12 = .ok (.astore_n 3, 1) := by decide +kernel
theorem dL_clean_13 : decode cL_clean 13 = .ok (.iconst 1, 1) := by decide +kernel
theorem dL_clean_14 : decode cL_clean 14 = .ok (.ireturn, 1) := by decide +kernel
theorem dL_clean_15 : decode cL_clean 15 = .ok (.astore_n 3, 1) := by decide +kernel
theorem dL_clean_16 : decode cL_clean 16 = .ok (.iconst 2, 1) := by decide +kernel
theorem dL_clean_17 : decode cL_clean 17 = .ok (.ireturn, 1) := by decide +kernel
theorem dL_clean_18 : decode cL_clean 18 = .ok (.iconst 0, 1) := by decide +kernel
theorem dL_clean_19 : decode cL_clean 19 = .ok (.ireturn, 1) := by decide +kernel
theorem dL_patch_0 : decode cL_patch 0 = .ok (.aload 4, 2) := by decide +kernel
theorem dL_patch_2 : decode cL_patch 2 = .ok (.iconst 0, 1) := by decide +kernel
theorem dL_patch_3 : decode cL_patch 3 = .ok (.aload_n 0, 1) := by decide +kernel
theorem dL_patch_4 : decode cL_patch 4 = .ok (.iload_n 1, 1) := by decide +kernel
theorem dL_patch_5 : decode cL_patch 5 = .ok (.iload_n 2, 1) := by decide +kernel
theorem dL_patch_6 : decode cL_patch 6 = .ok (.iload_n 3, 1) := by decide +kernel
theorem dL_patch_7 : decode cL_patch 7 = .ok (.invokevirtual 43, 3) := by decide +kernel
theorem dL_patch_10 : decode cL_patch 10 = .ok (.i2l, 1) := by decide +kernel
theorem dL_patch_11 : decode cL_patch 11 = .ok (.lastore, 1) := by decide +kernel
theorem dL_patch_12 : decode cL_patch 12 = .ok (.goto 11, 3) := by decide +kernel
theorem dL_patch_15 : decode cL_patch 15 = .ok (.astore 5, 2) := by decide +kernel
theorem dL_patch_17 : decode cL_patch 17 = .ok (.iconst 1, 1) := by decide +kernel
theorem dL_patch_18 : decode cL_patch 18 = .ok (.ireturn, 1) := by decide +kernel
theorem dL_patch_19 : decode cL_patch 19 = .ok (.astore 5, 2) := by decide +kernel
theorem dL_patch_21 : decode cL_patch 21 = .ok (.iconst 2, 1) := by decide +kernel
theorem dL_patch_22 : decode cL_patch 22 = .ok (.ireturn, 1) := by decide +kernel
theorem dL_patch_23 : decode cL_patch 23 = .ok (.iconst 0, 1) := by decide +kernel
theorem dL_patch_24 : decode cL_patch 24 = .ok (.ireturn, 1) := by decide +kernel
theorem dL_put_0 : decode cL_put 0 = .ok (.aload 4, 2) := by decide +kernel
theorem dL_put_2 : decode cL_put 2 = .ok (.iconst 0, 1) := by decide +kernel
theorem dL_put_3 : decode cL_put 3 = .ok (.aload_n 0, 1) := by decide +kernel
theorem dL_put_4 : decode cL_put 4 = .ok (.iload_n 1, 1) := by decide +kernel
theorem dL_put_5 : decode cL_put 5 = .ok (.iload_n 2, 1) := by decide +kernel
theorem dL_put_6 : decode cL_put 6 = .ok (.iload_n 3, 1) := by decide +kernel
theorem dL_put_7 : decode cL_put 7 = .ok (.invokevirtual 47, 3) := by decide +kernel
theorem dL_put_10 : decode cL_put 10 = .ok (.i2l, 1) := by decide +kernel
theorem dL_put_11 : decode cL_put 11 = .ok (.lastore, 1) := by decide +kernel
theorem dL_put_12 : decode cL_put 12 = .ok (.goto 11, 3) := by decide +kernel
theorem dL_put_15 : decode cL_put 15 = .ok (.astore 5, 2) := by decide +kernel
theorem dL_put_17 : decode cL_put 17 = .ok (.iconst 1, 1) := by decide +kernel
theorem dL_put_18 : decode cL_put 18 = .ok (.ireturn, 1) := by decide +kernel
theorem dL_put_19 : decode cL_put 19 = .ok (.astore 5, 2) := by decide +kernel
theorem dL_put_21 : decode cL_put 21 = .ok (.iconst 2, 1) := by decide +kernel
theorem dL_put_22 : decode cL_put 22 = .ok (.ireturn, 1) := by decide +kernel
theorem dL_put_23 : decode cL_put 23 = .ok (.iconst 0, 1) := by decide +kernel
theorem dL_put_24 : decode cL_put 24 = .ok (.ireturn, 1) := by decide +kernel
theorem dL_pass_0 : decode cL_pass 0 = .ok (.aload_n 2, 1) := by decide +kernel
theorem dL_pass_1 : decode cL_pass 1 = .ok (.iconst 0, 1) := by decide +kernel
theorem dL_pass_2 : decode cL_pass 2 = .ok (.aload_n 0, 1) := by decide +kernel
theorem dL_pass_3 : decode cL_pass 3 = .ok (.iload_n 1, 1) := by decide +kernel
theorem dL_pass_4 : decode cL_pass 4 = .ok (.invokevirtual 50, 3) := by decide +kernel
theorem dL_pass_7 : decode cL_pass 7 = .ok (.i2l, 1) := by decide +kernel
theorem dL_pass_8 : decode cL_pass 8 = .ok (.lastore, 1) := by decide +kernel
theorem dL_pass_9 : decode cL_pass 9 = .ok (.goto 6, 3) := by decide +kernel
theorem dL_pass_12 : decode cL_pass 12 = .ok (.astore_n 3, 1) := by decide +kernel
theorem dL_pass_13 : decode cL_pass 13 = .ok (.iconst 1, 1) := by decide +kernel
theorem dL_pass_14 : decode cL_pass 14 = .ok (.ireturn, 1) := by decide +kernel
theorem dL_pass_15 : decode cL_pass 15 = .ok (.iconst 0, 1) := by decide +kernel
theorem dL_pass_16 : decode cL_pass 16 = .ok (.ireturn, 1) := by decide +kernel
theorem dL_prints_0 : decode cL_prints 0 = .ok (.aload_n 2, 1) := by decide +kernel
theorem dL_prints_1 : decode cL_prints 1 = .ok (.iconst 0, 1) := by decide +kernel
theorem dL_prints_2 : decode cL_prints 2 = .ok (.aload_n 0, 1) := by decide +kernel
theorem dL_prints_3 : decode cL_prints 3 = .ok (.iload_n 1, 1) := by decide +kernel
theorem dL_prints_4 : decode cL_prints 4 = .ok (.invokevirtual 53, 3) := by decide +kernel
theorem dL_prints_7 : decode cL_prints 7 = .ok (.i2l, 1) := by decide +kernel
theorem dL_prints_8 : decode cL_prints 8 = .ok (.lastore, 1) := by decide +kernel
theorem dL_prints_9 : decode cL_prints 9 = .ok (.goto 6, 3) := by decide +kernel
theorem dL_prints_12 : decode cL_prints 12 = .ok (.astore_n 3, 1) := by decide +kernel
theorem dL_prints_13 : decode cL_prints 13 = .ok (.iconst 1, 1) := by decide +kernel
theorem dL_prints_14 : decode cL_prints 14 = .ok (.ireturn, 1) := by decide +kernel
theorem dL_prints_15 : decode cL_prints 15 = .ok (.iconst 0, 1) := by decide +kernel
theorem dL_prints_16 : decode cL_prints 16 = .ok (.ireturn, 1) := by decide +kernel
theorem dL_dry_0 : decode cL_dry 0 = .ok (.aload_n 3, 1) := by decide +kernel
theorem dL_dry_1 : decode cL_dry 1 = .ok (.iconst 0, 1) := by decide +kernel
theorem dL_dry_2 : decode cL_dry 2 = .ok (.aload_n 0, 1) := by decide +kernel
theorem dL_dry_3 : decode cL_dry 3 = .ok (.iload_n 1, 1) := by decide +kernel
theorem dL_dry_4 : decode cL_dry 4 = .ok (.iload_n 2, 1) := by decide +kernel
theorem dL_dry_5 : decode cL_dry 5 = .ok (.invokevirtual 56, 3) := by decide +kernel
theorem dL_dry_8 : decode cL_dry 8 = .ok (.i2l, 1) := by decide +kernel
theorem dL_dry_9 : decode cL_dry 9 = .ok (.lastore, 1) := by decide +kernel
theorem dL_dry_10 : decode cL_dry 10 = .ok (.goto 7, 3) := by decide +kernel
theorem dL_dry_13 : decode cL_dry 13 = .ok (.astore 4, 2) := by decide +kernel
theorem dL_dry_15 : decode cL_dry 15 = .ok (.iconst 1, 1) := by decide +kernel
theorem dL_dry_16 : decode cL_dry 16 = .ok (.ireturn, 1) := by decide +kernel
theorem dL_dry_17 : decode cL_dry 17 = .ok (.iconst 0, 1) := by decide +kernel
theorem dL_dry_18 : decode cL_dry 18 = .ok (.ireturn, 1) := by decide +kernel
theorem dL_ink_0 : decode cL_ink 0 = .ok (.aload 4, 2) := by decide +kernel
theorem dL_ink_2 : decode cL_ink 2 = .ok (.iconst 0, 1) := by decide +kernel
theorem dL_ink_3 : decode cL_ink 3 = .ok (.aload_n 0, 1) := by decide +kernel
theorem dL_ink_4 : decode cL_ink 4 = .ok (.iload_n 1, 1) := by decide +kernel
theorem dL_ink_5 : decode cL_ink 5 = .ok (.iload_n 2, 1) := by decide +kernel
theorem dL_ink_6 : decode cL_ink 6 = .ok (.iload_n 3, 1) := by decide +kernel
theorem dL_ink_7 : decode cL_ink 7 = .ok (.invokevirtual 59, 3) := by decide +kernel
theorem dL_ink_10 : decode cL_ink 10 = .ok (.i2l, 1) := by decide +kernel
theorem dL_ink_11 : decode cL_ink 11 = .ok (.lastore, 1) := by decide +kernel
theorem dL_ink_12 : decode cL_ink 12 = .ok (.goto 7, 3) := by decide +kernel
theorem dL_ink_15 : decode cL_ink 15 = .ok (.astore 5, 2) := by decide +kernel
theorem dL_ink_17 : decode cL_ink 17 = .ok (.iconst 1, 1) := by decide +kernel
theorem dL_ink_18 : decode cL_ink 18 = .ok (.ireturn, 1) := by decide +kernel
theorem dL_ink_19 : decode cL_ink 19 = .ok (.iconst 0, 1) := by decide +kernel
theorem dL_ink_20 : decode cL_ink 20 = .ok (.ireturn, 1) := by decide +kernel
theorem dL_spilt_0 : decode cL_spilt 0 = .ok (.aload_n 2, 1) := by decide +kernel
theorem dL_spilt_1 : decode cL_spilt 1 = .ok (.iconst 0, 1) := by decide +kernel
theorem dL_spilt_2 : decode cL_spilt 2 = .ok (.aload_n 0, 1) := by decide +kernel
theorem dL_spilt_3 : decode cL_spilt 3 = .ok (.iload_n 1, 1) := by decide +kernel
theorem dL_spilt_4 : decode cL_spilt 4 = .ok (.invokevirtual 62, 3) := by decide +kernel
theorem dL_spilt_7 : decode cL_spilt 7 = .ok (.i2l, 1) := by decide +kernel
theorem dL_spilt_8 : decode cL_spilt 8 = .ok (.lastore, 1) := by decide +kernel
theorem dL_spilt_9 : decode cL_spilt 9 = .ok (.goto 6, 3) := by decide +kernel
theorem dL_spilt_12 : decode cL_spilt 12 = .ok (.astore_n 3, 1) := by decide +kernel
theorem dL_spilt_13 : decode cL_spilt 13 = .ok (.iconst 1, 1) := by decide +kernel
theorem dL_spilt_14 : decode cL_spilt 14 = .ok (.ireturn, 1) := by decide +kernel
theorem dL_spilt_15 : decode cL_spilt 15 = .ok (.iconst 0, 1) := by decide +kernel
theorem dL_spilt_16 : decode cL_spilt 16 = .ok (.ireturn, 1) := by decide +kernel
theorem dL_used_0 : decode cL_used 0 = .ok (.aload_n 3, 1) := by decide +kernel
theorem dL_used_1 : decode cL_used 1 = .ok (.iconst 0, 1) := by decide +kernel
theorem dL_used_2 : decode cL_used 2 = .ok (.aload_n 0, 1) := by decide +kernel
theorem dL_used_3 : decode cL_used 3 = .ok (.iload_n 1, 1) := by decide +kernel
theorem dL_used_4 : decode cL_used 4 = .ok (.iload_n 2, 1) := by decide +kernel
theorem dL_used_5 : decode cL_used 5 = .ok (.invokevirtual 65, 3) := by decide +kernel
theorem dL_used_8 : decode cL_used 8 = .ok (.i2l, 1) := by decide +kernel
theorem dL_used_9 : decode cL_used 9 = .ok (.lastore, 1) := by decide +kernel
theorem dL_used_10 : decode cL_used 10 = .ok (.goto 7, 3) := by decide +kernel
theorem dL_used_13 : decode cL_used 13 = .ok (.astore 4, 2) := by decide +kernel
theorem dL_used_15 : decode cL_used 15 = .ok (.iconst 1, 1) := by decide +kernel
theorem dL_used_16 : decode cL_used 16 = .ok (.ireturn, 1) := by decide +kernel
theorem dL_used_17 : decode cL_used 17 = .ok (.iconst 0, 1) := by decide +kernel
theorem dL_used_18 : decode cL_used 18 = .ok (.ireturn, 1) := by decide +kernel
theorem dL_seam_0 : decode cL_seam 0 = .ok (.aload_n 3, 1) := by decide +kernel
theorem dL_seam_1 : decode cL_seam 1 = .ok (.iconst 0, 1) := by decide +kernel
theorem dL_seam_2 : decode cL_seam 2 = .ok (.aload_n 0, 1) := by decide +kernel
theorem dL_seam_3 : decode cL_seam 3 = .ok (.iload_n 1, 1) := by decide +kernel
theorem dL_seam_4 : decode cL_seam 4 = .ok (.iload_n 2, 1) := by decide +kernel
theorem dL_seam_5 : decode cL_seam 5 = .ok (.invokevirtual 69, 3) := by decide +kernel
theorem dL_seam_8 : decode cL_seam 8 = .ok (.i2l, 1) := by decide +kernel
theorem dL_seam_9 : decode cL_seam 9 = .ok (.lastore, 1) := by decide +kernel
theorem dL_seam_10 : decode cL_seam 10 = .ok (.goto 11, 3) := by decide +kernel
theorem dL_seam_13 : decode cL_seam 13 = .ok (.astore 4, 2) := by decide +kernel
theorem dL_seam_15 : decode cL_seam 15 = .ok (.iconst 1, 1) := by decide +kernel
theorem dL_seam_16 : decode cL_seam 16 = .ok (.ireturn, 1) := by decide +kernel
theorem dL_seam_17 : decode cL_seam 17 = .ok (.astore 4, 2) := by decide +kernel
theorem dL_seam_19 : decode cL_seam 19 = .ok (.iconst 2, 1) := by decide +kernel
theorem dL_seam_20 : decode cL_seam 20 = .ok (.ireturn, 1) := by decide +kernel
theorem dL_seam_21 : decode cL_seam 21 = .ok (.iconst 0, 1) := by decide +kernel
theorem dL_seam_22 : decode cL_seam 22 = .ok (.ireturn, 1) := by decide +kernel
theorem dL_meanError_0 : decode cL_meanError 0 = .ok (.aload_n 2, 1) := by decide +kernel
theorem dL_meanError_1 : decode cL_meanError 1 = .ok (.iconst 0, 1) := by decide +kernel
theorem dL_meanError_2 : decode cL_meanError 2 = .ok (.aload_n 0, 1) := by decide +kernel
theorem dL_meanError_3 : decode cL_meanError 3 = .ok (.iload_n 1, 1) := by decide +kernel
theorem dL_meanError_4 : decode cL_meanError 4 = .ok (.invokevirtual 72, 3) := by decide +kernel
theorem dL_meanError_7 : decode cL_meanError 7 = .ok (.f2d, 1) := by decide +kernel
theorem dL_meanError_8 : decode cL_meanError 8 = .ok (.dastore, 1) := by decide +kernel
theorem dL_meanError_9 : decode cL_meanError 9 = .ok (.goto 6, 3) := by decide +kernel
theorem dL_meanError_12 : decode cL_meanError 12 = .ok (.astore_n 3, 1) := by decide +kernel
theorem dL_meanError_13 : decode cL_meanError 13 = .ok (.iconst 1, 1) := by decide +kernel
theorem dL_meanError_14 : decode cL_meanError 14 = .ok (.ireturn, 1) := by decide +kernel
theorem dL_meanError_15 : decode cL_meanError 15 = .ok (.iconst 0, 1) := by decide +kernel
theorem dL_meanError_16 : decode cL_meanError 16 = .ok (.ireturn, 1) := by decide +kernel

def wL_begin (p0 : Option Nat) (x1 : Int32) (x2 : Int32) (x3 : Int32) (x4 : Int32) (x5 : Int32) (p6 : Option Nat) (S : HS) (Q : Int32 → HS → Prop) : Prop := (∃ q1, p0 = some q1 ∧ (ok S q1 4 ∧ wX4_begin q1 x1 x2 x3 x4 x5 S (fun r1 S1 => (∃ q2, p6 = some q2 ∧ (ok S1 q2 11 ∧ vp_in (0 : Int32) (gN S1 q2) ∧ (∀ S3, S3 = sJ S1 q2 (0 : Int32).toNatClampNeg (r1).toInt64 → Q (0 : Int32) S3)))) (fun E S2 => (E = "java/lang/IllegalArgumentException" ∧ Q (1 : Int32) S2) ∨ (E = "java/lang/IllegalStateException" ∧ Q (2 : Int32) S2))))

def wL_fill (p0 : Option Nat) (x1 : Int32) (x2 : Int32) (x3 : Int32) (x4 : Int32) (x5 : Int32) (p6 : Option Nat) (S : HS) (Q : Int32 → HS → Prop) : Prop := (∃ q1, p0 = some q1 ∧ (ok S q1 4 ∧ wX4_fill q1 x1 x2 x3 x4 x5 S (fun r1 S1 => (∃ q2, p6 = some q2 ∧ (ok S1 q2 11 ∧ vp_in (0 : Int32) (gN S1 q2) ∧ (∀ S3, S3 = sJ S1 q2 (0 : Int32).toNatClampNeg (r1).toInt64 → Q (0 : Int32) S3)))) (fun E S2 => (E = "java/lang/IndexOutOfBoundsException" ∧ Q (1 : Int32) S2) ∨ (E = "java/lang/IllegalArgumentException" ∧ Q (2 : Int32) S2))))

def wL_strips (p0 : Option Nat) (x1 : Int32) (p2 : Option Nat) (S : HS) (Q : Int32 → HS → Prop) : Prop := (∃ q1, p0 = some q1 ∧ (ok S q1 4 ∧ wX4_strips q1 x1 S (fun r1 S1 => (∃ q2, p2 = some q2 ∧ (ok S1 q2 11 ∧ vp_in (0 : Int32) (gN S1 q2) ∧ (∀ S3, S3 = sJ S1 q2 (0 : Int32).toNatClampNeg (r1).toInt64 → Q (0 : Int32) S3)))) (fun E S2 => (E = "java/lang/IndexOutOfBoundsException" ∧ Q (1 : Int32) S2))))

def wL_toLay (p0 : Option Nat) (x1 : Int32) (x2 : Int32) (x3 : Int32) (x4 : Int32) (p5 : Option Nat) (S : HS) (Q : Int32 → HS → Prop) : Prop := (∃ q1, p0 = some q1 ∧ (ok S q1 4 ∧ wX4_toLay q1 x1 x2 x3 x4 S (fun r1 S1 => (∃ q2, p5 = some q2 ∧ (ok S1 q2 11 ∧ vp_in (0 : Int32) (gN S1 q2) ∧ (∀ S3, S3 = sJ S1 q2 (0 : Int32).toNatClampNeg (r1).toInt64 → Q (0 : Int32) S3)))) (fun E S2 => (E = "java/lang/IndexOutOfBoundsException" ∧ Q (1 : Int32) S2))))

def wL_setGain (p0 : Option Nat) (x1 : Int32) (x2 : Int32) (p3 : Option Nat) (S : HS) (Q : Int32 → HS → Prop) : Prop := (∃ q1, p0 = some q1 ∧ (ok S q1 4 ∧ wX4_setGain q1 x1 x2 S (fun r1 S1 => (∃ q2, p3 = some q2 ∧ (ok S1 q2 11 ∧ vp_in (0 : Int32) (gN S1 q2) ∧ (∀ S3, S3 = sJ S1 q2 (0 : Int32).toNatClampNeg (r1).toInt64 → Q (0 : Int32) S3)))) (fun E S2 => (E = "java/lang/IndexOutOfBoundsException" ∧ Q (1 : Int32) S2) ∨ (E = "java/lang/IllegalArgumentException" ∧ Q (2 : Int32) S2))))

def wL_match (p0 : Option Nat) (x1 : Int32) (p2 : Option Nat) (S : HS) (Q : Int32 → HS → Prop) : Prop := (∃ q1, p0 = some q1 ∧ (ok S q1 4 ∧ wX4_match q1 x1 S (fun r1 S1 => (∃ q2, p2 = some q2 ∧ (ok S1 q2 11 ∧ vp_in (0 : Int32) (gN S1 q2) ∧ (∀ S3, S3 = sJ S1 q2 (0 : Int32).toNatClampNeg (r1).toInt64 → Q (0 : Int32) S3)))) (fun E S2 => (E = "java/lang/IndexOutOfBoundsException" ∧ Q (1 : Int32) S2))))

def wL_block (p0 : Option Nat) (x1 : Int32) (x2 : Int32) (p3 : Option Nat) (S : HS) (Q : Int32 → HS → Prop) : Prop := (∃ q1, p0 = some q1 ∧ (ok S q1 4 ∧ wX4_block q1 x1 x2 S (fun r1 S1 => (∃ q2, p3 = some q2 ∧ (ok S1 q2 11 ∧ vp_in (0 : Int32) (gN S1 q2) ∧ (∀ S3, S3 = sJ S1 q2 (0 : Int32).toNatClampNeg (r1).toInt64 → Q (0 : Int32) S3)))) (fun E S2 => (E = "java/lang/IndexOutOfBoundsException" ∧ Q (1 : Int32) S2))))

def wL_clean (p0 : Option Nat) (x1 : Int32) (p2 : Option Nat) (S : HS) (Q : Int32 → HS → Prop) : Prop := (∃ q1, p0 = some q1 ∧ (ok S q1 4 ∧ wX4_clean q1 x1 S (fun r1 S1 => (∃ q2, p2 = some q2 ∧ (ok S1 q2 11 ∧ vp_in (0 : Int32) (gN S1 q2) ∧ (∀ S3, S3 = sJ S1 q2 (0 : Int32).toNatClampNeg (r1).toInt64 → Q (0 : Int32) S3)))) (fun E S2 => (E = "java/lang/IndexOutOfBoundsException" ∧ Q (1 : Int32) S2) ∨ (E = "java/lang/IllegalStateException" ∧ Q (2 : Int32) S2))))

def wL_patch (p0 : Option Nat) (x1 : Int32) (x2 : Int32) (x3 : Int32) (p4 : Option Nat) (S : HS) (Q : Int32 → HS → Prop) : Prop := (∃ q1, p0 = some q1 ∧ (ok S q1 4 ∧ wX4_patch q1 x1 x2 x3 S (fun r1 S1 => (∃ q2, p4 = some q2 ∧ (ok S1 q2 11 ∧ vp_in (0 : Int32) (gN S1 q2) ∧ (∀ S3, S3 = sJ S1 q2 (0 : Int32).toNatClampNeg (r1).toInt64 → Q (0 : Int32) S3)))) (fun E S2 => (E = "java/lang/IndexOutOfBoundsException" ∧ Q (1 : Int32) S2) ∨ (E = "java/lang/IllegalArgumentException" ∧ Q (2 : Int32) S2))))

def wL_put (p0 : Option Nat) (x1 : Int32) (x2 : Int32) (x3 : Int32) (p4 : Option Nat) (S : HS) (Q : Int32 → HS → Prop) : Prop := (∃ q1, p0 = some q1 ∧ (ok S q1 4 ∧ wX4_put q1 x1 x2 x3 S (fun r1 S1 => (∃ q2, p4 = some q2 ∧ (ok S1 q2 11 ∧ vp_in (0 : Int32) (gN S1 q2) ∧ (∀ S3, S3 = sJ S1 q2 (0 : Int32).toNatClampNeg (r1).toInt64 → Q (0 : Int32) S3)))) (fun E S2 => (E = "java/lang/IndexOutOfBoundsException" ∧ Q (1 : Int32) S2) ∨ (E = "java/lang/IllegalStateException" ∧ Q (2 : Int32) S2))))

def wL_pass (p0 : Option Nat) (x1 : Int32) (p2 : Option Nat) (S : HS) (Q : Int32 → HS → Prop) : Prop := (∃ q1, p0 = some q1 ∧ (ok S q1 4 ∧ wX4_pass q1 x1 S (fun r1 S1 => (∃ q2, p2 = some q2 ∧ (ok S1 q2 11 ∧ vp_in (0 : Int32) (gN S1 q2) ∧ (∀ S3, S3 = sJ S1 q2 (0 : Int32).toNatClampNeg (r1).toInt64 → Q (0 : Int32) S3)))) (fun E S2 => (E = "java/lang/IllegalArgumentException" ∧ Q (1 : Int32) S2))))

def wL_prints (p0 : Option Nat) (x1 : Int32) (p2 : Option Nat) (S : HS) (Q : Int32 → HS → Prop) : Prop := (∃ q1, p0 = some q1 ∧ (ok S q1 4 ∧ wX4_prints q1 x1 S (fun r1 S1 => (∃ q2, p2 = some q2 ∧ (ok S1 q2 11 ∧ vp_in (0 : Int32) (gN S1 q2) ∧ (∀ S3, S3 = sJ S1 q2 (0 : Int32).toNatClampNeg (r1).toInt64 → Q (0 : Int32) S3)))) (fun E S2 => (E = "java/lang/IndexOutOfBoundsException" ∧ Q (1 : Int32) S2))))

def wL_dry (p0 : Option Nat) (x1 : Int32) (x2 : Int32) (p3 : Option Nat) (S : HS) (Q : Int32 → HS → Prop) : Prop := (∃ q1, p0 = some q1 ∧ (ok S q1 4 ∧ wX4_dry q1 x1 x2 S (fun r1 S1 => (∃ q2, p3 = some q2 ∧ (ok S1 q2 11 ∧ vp_in (0 : Int32) (gN S1 q2) ∧ (∀ S3, S3 = sJ S1 q2 (0 : Int32).toNatClampNeg (r1).toInt64 → Q (0 : Int32) S3)))) (fun E S2 => (E = "java/lang/IndexOutOfBoundsException" ∧ Q (1 : Int32) S2))))

def wL_ink (p0 : Option Nat) (x1 : Int32) (x2 : Int32) (x3 : Int32) (p4 : Option Nat) (S : HS) (Q : Int32 → HS → Prop) : Prop := (∃ q1, p0 = some q1 ∧ (ok S q1 4 ∧ wX4_ink q1 x1 x2 x3 S (fun r1 S1 => (∃ q2, p4 = some q2 ∧ (ok S1 q2 11 ∧ vp_in (0 : Int32) (gN S1 q2) ∧ (∀ S3, S3 = sJ S1 q2 (0 : Int32).toNatClampNeg (r1).toInt64 → Q (0 : Int32) S3)))) (fun E S2 => (E = "java/lang/IndexOutOfBoundsException" ∧ Q (1 : Int32) S2))))

def wL_spilt (p0 : Option Nat) (x1 : Int32) (p2 : Option Nat) (S : HS) (Q : Int32 → HS → Prop) : Prop := (∃ q1, p0 = some q1 ∧ (ok S q1 4 ∧ wX4_spilt q1 x1 S (fun r1 S1 => (∃ q2, p2 = some q2 ∧ (ok S1 q2 11 ∧ vp_in (0 : Int32) (gN S1 q2) ∧ (∀ S3, S3 = sJ S1 q2 (0 : Int32).toNatClampNeg (r1).toInt64 → Q (0 : Int32) S3)))) (fun E S2 => (E = "java/lang/IndexOutOfBoundsException" ∧ Q (1 : Int32) S2))))

def wL_used (p0 : Option Nat) (x1 : Int32) (x2 : Int32) (p3 : Option Nat) (S : HS) (Q : Int32 → HS → Prop) : Prop := (∃ q1, p0 = some q1 ∧ (ok S q1 4 ∧ wX4_used q1 x1 x2 S (fun r1 S1 => (∃ q2, p3 = some q2 ∧ (ok S1 q2 11 ∧ vp_in (0 : Int32) (gN S1 q2) ∧ (∀ S3, S3 = sJ S1 q2 (0 : Int32).toNatClampNeg (r1).toInt64 → Q (0 : Int32) S3)))) (fun E S2 => (E = "java/lang/IndexOutOfBoundsException" ∧ Q (1 : Int32) S2))))

def wL_seam (p0 : Option Nat) (x1 : Int32) (x2 : Int32) (p3 : Option Nat) (S : HS) (Q : Int32 → HS → Prop) : Prop := (∃ q1, p0 = some q1 ∧ (ok S q1 4 ∧ wX4_seam q1 x1 x2 S (fun r1 S1 => (∃ q2, p3 = some q2 ∧ (ok S1 q2 11 ∧ vp_in (0 : Int32) (gN S1 q2) ∧ (∀ S3, S3 = sJ S1 q2 (0 : Int32).toNatClampNeg (r1).toInt64 → Q (0 : Int32) S3)))) (fun E S2 => (E = "java/lang/IndexOutOfBoundsException" ∧ Q (1 : Int32) S2) ∨ (E = "java/lang/IllegalStateException" ∧ Q (2 : Int32) S2))))

def wL_meanError (p0 : Option Nat) (x1 : Int32) (p2 : Option Nat) (S : HS) (Q : Int32 → HS → Prop) : Prop := (∃ q1, p0 = some q1 ∧ (ok S q1 4 ∧ wX4_meanError q1 x1 S (fun r1 S1 => (vf_n64 (FP.f2d r1) ∧ (∃ q2, p2 = some q2 ∧ (ok S1 q2 12 ∧ vp_in (0 : Int32) (gN S1 q2) ∧ (∀ S3, S3 = sD S1 q2 (0 : Int32).toNatClampNeg (FP.f2d r1) → Q (0 : Int32) S3))))) (fun E S2 => (E = "java/lang/IndexOutOfBoundsException" ∧ Q (1 : Int32) S2))))
theorem kC_X4_begin : Cond.code yX4_begin cX4_begin 7 (some .int) ∈ T0 := T0_mem (i := 122) (by decide +kernel) (by decide +kernel)
theorem kM_RL_7 : Cond.methodLink RL 7 yX4_begin ∈ T0 := T0_mem (i := 119) (by decide +kernel) (by decide +kernel)
theorem hd_X4_begin : yX4_begin.cls ≠ "java/lang/invoke/MethodHandle" ∧ yX4_begin.cls ≠ "java/lang/invoke/VarHandle" ∧ (parseMethodDescriptor yX4_begin.desc).map (fun d => d.parameters.length) = some 5 := by decide +kernel
theorem kO_X4_begin : Cond.instanceMethod yX4_begin ∈ T0 := T0_mem (i := 120) (by decide +kernel) (by decide +kernel)
theorem kV_X4_begin : Cond.selects RX4 yX4_begin yX4_begin ∈ T0 := T0_mem (i := 121) (by decide +kernel) (by decide +kernel)
theorem kK_java_lang_IllegalArgumentException : Cond.castable "java/lang/IllegalArgumentException" "java/lang/IllegalArgumentException" ∈ T0 := T0_mem (i := 128) (by decide +kernel) (by decide +kernel)
theorem kL_RL_13 : Cond.classLink RL 13 "java/lang/IllegalArgumentException" ∈ T0 := T0_mem (i := 117) (by decide +kernel) (by decide +kernel)
theorem kK_java_lang_IllegalStateException : Cond.castable "java/lang/IllegalStateException" "java/lang/IllegalStateException" ∈ T0 := T0_mem (i := 200) (by decide +kernel) (by decide +kernel)
theorem kL_RL_15 : Cond.classLink RL 15 "java/lang/IllegalStateException" ∈ T0 := T0_mem (i := 118) (by decide +kernel) (by decide +kernel)
theorem kC_X4_fill : Cond.code yX4_fill cX4_fill 7 (some .int) ∈ T0 := T0_mem (i := 318) (by decide +kernel) (by decide +kernel)
theorem kM_RL_17 : Cond.methodLink RL 17 yX4_fill ∈ T0 := T0_mem (i := 315) (by decide +kernel) (by decide +kernel)
theorem hd_X4_fill : yX4_fill.cls ≠ "java/lang/invoke/MethodHandle" ∧ yX4_fill.cls ≠ "java/lang/invoke/VarHandle" ∧ (parseMethodDescriptor yX4_fill.desc).map (fun d => d.parameters.length) = some 5 := by decide +kernel
theorem kO_X4_fill : Cond.instanceMethod yX4_fill ∈ T0 := T0_mem (i := 316) (by decide +kernel) (by decide +kernel)
theorem kV_X4_fill : Cond.selects RX4 yX4_fill yX4_fill ∈ T0 := T0_mem (i := 317) (by decide +kernel) (by decide +kernel)
theorem kK_java_lang_IndexOutOfBoundsException : Cond.castable "java/lang/IndexOutOfBoundsException" "java/lang/IndexOutOfBoundsException" ∈ T0 := T0_mem (i := 332) (by decide +kernel) (by decide +kernel)
theorem kL_RL_20 : Cond.classLink RL 20 "java/lang/IndexOutOfBoundsException" ∈ T0 := T0_mem (i := 314) (by decide +kernel) (by decide +kernel)
theorem kC_X4_strips : Cond.code yX4_strips cX4_strips 3 (some .int) ∈ T0 := T0_mem (i := 365) (by decide +kernel) (by decide +kernel)
theorem kM_RL_22 : Cond.methodLink RL 22 yX4_strips ∈ T0 := T0_mem (i := 362) (by decide +kernel) (by decide +kernel)
theorem hd_X4_strips : yX4_strips.cls ≠ "java/lang/invoke/MethodHandle" ∧ yX4_strips.cls ≠ "java/lang/invoke/VarHandle" ∧ (parseMethodDescriptor yX4_strips.desc).map (fun d => d.parameters.length) = some 1 := by decide +kernel
theorem kO_X4_strips : Cond.instanceMethod yX4_strips ∈ T0 := T0_mem (i := 363) (by decide +kernel) (by decide +kernel)
theorem kV_X4_strips : Cond.selects RX4 yX4_strips yX4_strips ∈ T0 := T0_mem (i := 364) (by decide +kernel) (by decide +kernel)
theorem kC_X4_toLay : Cond.code yX4_toLay cX4_toLay 7 (some .int) ∈ T0 := T0_mem (i := 373) (by decide +kernel) (by decide +kernel)
theorem kM_RL_26 : Cond.methodLink RL 26 yX4_toLay ∈ T0 := T0_mem (i := 370) (by decide +kernel) (by decide +kernel)
theorem hd_X4_toLay : yX4_toLay.cls ≠ "java/lang/invoke/MethodHandle" ∧ yX4_toLay.cls ≠ "java/lang/invoke/VarHandle" ∧ (parseMethodDescriptor yX4_toLay.desc).map (fun d => d.parameters.length) = some 4 := by decide +kernel
theorem kO_X4_toLay : Cond.instanceMethod yX4_toLay ∈ T0 := T0_mem (i := 371) (by decide +kernel) (by decide +kernel)
theorem kV_X4_toLay : Cond.selects RX4 yX4_toLay yX4_toLay ∈ T0 := T0_mem (i := 372) (by decide +kernel) (by decide +kernel)
theorem kC_X4_setGain : Cond.code yX4_setGain cX4_setGain 5 (some .int) ∈ T0 := T0_mem (i := 400) (by decide +kernel) (by decide +kernel)
theorem kM_RL_30 : Cond.methodLink RL 30 yX4_setGain ∈ T0 := T0_mem (i := 397) (by decide +kernel) (by decide +kernel)
theorem hd_X4_setGain : yX4_setGain.cls ≠ "java/lang/invoke/MethodHandle" ∧ yX4_setGain.cls ≠ "java/lang/invoke/VarHandle" ∧ (parseMethodDescriptor yX4_setGain.desc).map (fun d => d.parameters.length) = some 2 := by decide +kernel
theorem kO_X4_setGain : Cond.instanceMethod yX4_setGain ∈ T0 := T0_mem (i := 398) (by decide +kernel) (by decide +kernel)
theorem kV_X4_setGain : Cond.selects RX4 yX4_setGain yX4_setGain ∈ T0 := T0_mem (i := 399) (by decide +kernel) (by decide +kernel)
theorem kC_X4_match : Cond.code yX4_match cX4_match 3 (some .int) ∈ T0 := T0_mem (i := 413) (by decide +kernel) (by decide +kernel)
theorem kM_RL_34 : Cond.methodLink RL 34 yX4_match ∈ T0 := T0_mem (i := 410) (by decide +kernel) (by decide +kernel)
theorem hd_X4_match : yX4_match.cls ≠ "java/lang/invoke/MethodHandle" ∧ yX4_match.cls ≠ "java/lang/invoke/VarHandle" ∧ (parseMethodDescriptor yX4_match.desc).map (fun d => d.parameters.length) = some 1 := by decide +kernel
theorem kO_X4_match : Cond.instanceMethod yX4_match ∈ T0 := T0_mem (i := 411) (by decide +kernel) (by decide +kernel)
theorem kV_X4_match : Cond.selects RX4 yX4_match yX4_match ∈ T0 := T0_mem (i := 412) (by decide +kernel) (by decide +kernel)
theorem kC_X4_block : Cond.code yX4_block cX4_block 4 (some .int) ∈ T0 := T0_mem (i := 424) (by decide +kernel) (by decide +kernel)
theorem kM_RL_37 : Cond.methodLink RL 37 yX4_block ∈ T0 := T0_mem (i := 421) (by decide +kernel) (by decide +kernel)
theorem hd_X4_block : yX4_block.cls ≠ "java/lang/invoke/MethodHandle" ∧ yX4_block.cls ≠ "java/lang/invoke/VarHandle" ∧ (parseMethodDescriptor yX4_block.desc).map (fun d => d.parameters.length) = some 2 := by decide +kernel
theorem kO_X4_block : Cond.instanceMethod yX4_block ∈ T0 := T0_mem (i := 422) (by decide +kernel) (by decide +kernel)
theorem kV_X4_block : Cond.selects RX4 yX4_block yX4_block ∈ T0 := T0_mem (i := 423) (by decide +kernel) (by decide +kernel)
theorem kC_X4_clean : Cond.code yX4_clean cX4_clean 4 (some .int) ∈ T0 := T0_mem (i := 440) (by decide +kernel) (by decide +kernel)
theorem kM_RL_40 : Cond.methodLink RL 40 yX4_clean ∈ T0 := T0_mem (i := 437) (by decide +kernel) (by decide +kernel)
theorem hd_X4_clean : yX4_clean.cls ≠ "java/lang/invoke/MethodHandle" ∧ yX4_clean.cls ≠ "java/lang/invoke/VarHandle" ∧ (parseMethodDescriptor yX4_clean.desc).map (fun d => d.parameters.length) = some 1 := by decide +kernel
theorem kO_X4_clean : Cond.instanceMethod yX4_clean ∈ T0 := T0_mem (i := 438) (by decide +kernel) (by decide +kernel)
theorem kV_X4_clean : Cond.selects RX4 yX4_clean yX4_clean ∈ T0 := T0_mem (i := 439) (by decide +kernel) (by decide +kernel)
theorem kC_X4_patch : Cond.code yX4_patch cX4_patch 6 (some .int) ∈ T0 := T0_mem (i := 456) (by decide +kernel) (by decide +kernel)
theorem kM_RL_43 : Cond.methodLink RL 43 yX4_patch ∈ T0 := T0_mem (i := 453) (by decide +kernel) (by decide +kernel)
theorem hd_X4_patch : yX4_patch.cls ≠ "java/lang/invoke/MethodHandle" ∧ yX4_patch.cls ≠ "java/lang/invoke/VarHandle" ∧ (parseMethodDescriptor yX4_patch.desc).map (fun d => d.parameters.length) = some 3 := by decide +kernel
theorem kO_X4_patch : Cond.instanceMethod yX4_patch ∈ T0 := T0_mem (i := 454) (by decide +kernel) (by decide +kernel)
theorem kV_X4_patch : Cond.selects RX4 yX4_patch yX4_patch ∈ T0 := T0_mem (i := 455) (by decide +kernel) (by decide +kernel)
theorem kC_X4_put : Cond.code yX4_put cX4_put 6 (some .int) ∈ T0 := T0_mem (i := 485) (by decide +kernel) (by decide +kernel)
theorem kM_RL_47 : Cond.methodLink RL 47 yX4_put ∈ T0 := T0_mem (i := 482) (by decide +kernel) (by decide +kernel)
theorem hd_X4_put : yX4_put.cls ≠ "java/lang/invoke/MethodHandle" ∧ yX4_put.cls ≠ "java/lang/invoke/VarHandle" ∧ (parseMethodDescriptor yX4_put.desc).map (fun d => d.parameters.length) = some 3 := by decide +kernel
theorem kO_X4_put : Cond.instanceMethod yX4_put ∈ T0 := T0_mem (i := 483) (by decide +kernel) (by decide +kernel)
theorem kV_X4_put : Cond.selects RX4 yX4_put yX4_put ∈ T0 := T0_mem (i := 484) (by decide +kernel) (by decide +kernel)
theorem kC_X4_pass : Cond.code yX4_pass cX4_pass 4 (some .int) ∈ T0 := T0_mem (i := 494) (by decide +kernel) (by decide +kernel)
theorem kM_RL_50 : Cond.methodLink RL 50 yX4_pass ∈ T0 := T0_mem (i := 491) (by decide +kernel) (by decide +kernel)
theorem hd_X4_pass : yX4_pass.cls ≠ "java/lang/invoke/MethodHandle" ∧ yX4_pass.cls ≠ "java/lang/invoke/VarHandle" ∧ (parseMethodDescriptor yX4_pass.desc).map (fun d => d.parameters.length) = some 1 := by decide +kernel
theorem kO_X4_pass : Cond.instanceMethod yX4_pass ∈ T0 := T0_mem (i := 492) (by decide +kernel) (by decide +kernel)
theorem kV_X4_pass : Cond.selects RX4 yX4_pass yX4_pass ∈ T0 := T0_mem (i := 493) (by decide +kernel) (by decide +kernel)
theorem kC_X4_prints : Cond.code yX4_prints cX4_prints 4 (some .int) ∈ T0 := T0_mem (i := 540) (by decide +kernel) (by decide +kernel)
theorem kM_RL_53 : Cond.methodLink RL 53 yX4_prints ∈ T0 := T0_mem (i := 537) (by decide +kernel) (by decide +kernel)
theorem hd_X4_prints : yX4_prints.cls ≠ "java/lang/invoke/MethodHandle" ∧ yX4_prints.cls ≠ "java/lang/invoke/VarHandle" ∧ (parseMethodDescriptor yX4_prints.desc).map (fun d => d.parameters.length) = some 1 := by decide +kernel
theorem kO_X4_prints : Cond.instanceMethod yX4_prints ∈ T0 := T0_mem (i := 538) (by decide +kernel) (by decide +kernel)
theorem kV_X4_prints : Cond.selects RX4 yX4_prints yX4_prints ∈ T0 := T0_mem (i := 539) (by decide +kernel) (by decide +kernel)
theorem kC_X4_dry : Cond.code yX4_dry cX4_dry 4 (some .int) ∈ T0 := T0_mem (i := 547) (by decide +kernel) (by decide +kernel)
theorem kM_RL_56 : Cond.methodLink RL 56 yX4_dry ∈ T0 := T0_mem (i := 544) (by decide +kernel) (by decide +kernel)
theorem hd_X4_dry : yX4_dry.cls ≠ "java/lang/invoke/MethodHandle" ∧ yX4_dry.cls ≠ "java/lang/invoke/VarHandle" ∧ (parseMethodDescriptor yX4_dry.desc).map (fun d => d.parameters.length) = some 2 := by decide +kernel
theorem kO_X4_dry : Cond.instanceMethod yX4_dry ∈ T0 := T0_mem (i := 545) (by decide +kernel) (by decide +kernel)
theorem kV_X4_dry : Cond.selects RX4 yX4_dry yX4_dry ∈ T0 := T0_mem (i := 546) (by decide +kernel) (by decide +kernel)
theorem kC_X4_ink : Cond.code yX4_ink cX4_ink 5 (some .int) ∈ T0 := T0_mem (i := 555) (by decide +kernel) (by decide +kernel)
theorem kM_RL_59 : Cond.methodLink RL 59 yX4_ink ∈ T0 := T0_mem (i := 552) (by decide +kernel) (by decide +kernel)
theorem hd_X4_ink : yX4_ink.cls ≠ "java/lang/invoke/MethodHandle" ∧ yX4_ink.cls ≠ "java/lang/invoke/VarHandle" ∧ (parseMethodDescriptor yX4_ink.desc).map (fun d => d.parameters.length) = some 3 := by decide +kernel
theorem kO_X4_ink : Cond.instanceMethod yX4_ink ∈ T0 := T0_mem (i := 553) (by decide +kernel) (by decide +kernel)
theorem kV_X4_ink : Cond.selects RX4 yX4_ink yX4_ink ∈ T0 := T0_mem (i := 554) (by decide +kernel) (by decide +kernel)
theorem kC_X4_spilt : Cond.code yX4_spilt cX4_spilt 3 (some .int) ∈ T0 := T0_mem (i := 566) (by decide +kernel) (by decide +kernel)
theorem kM_RL_62 : Cond.methodLink RL 62 yX4_spilt ∈ T0 := T0_mem (i := 563) (by decide +kernel) (by decide +kernel)
theorem hd_X4_spilt : yX4_spilt.cls ≠ "java/lang/invoke/MethodHandle" ∧ yX4_spilt.cls ≠ "java/lang/invoke/VarHandle" ∧ (parseMethodDescriptor yX4_spilt.desc).map (fun d => d.parameters.length) = some 1 := by decide +kernel
theorem kO_X4_spilt : Cond.instanceMethod yX4_spilt ∈ T0 := T0_mem (i := 564) (by decide +kernel) (by decide +kernel)
theorem kV_X4_spilt : Cond.selects RX4 yX4_spilt yX4_spilt ∈ T0 := T0_mem (i := 565) (by decide +kernel) (by decide +kernel)
theorem kC_X4_used : Cond.code yX4_used cX4_used 4 (some .int) ∈ T0 := T0_mem (i := 577) (by decide +kernel) (by decide +kernel)
theorem kM_RL_65 : Cond.methodLink RL 65 yX4_used ∈ T0 := T0_mem (i := 574) (by decide +kernel) (by decide +kernel)
theorem hd_X4_used : yX4_used.cls ≠ "java/lang/invoke/MethodHandle" ∧ yX4_used.cls ≠ "java/lang/invoke/VarHandle" ∧ (parseMethodDescriptor yX4_used.desc).map (fun d => d.parameters.length) = some 2 := by decide +kernel
theorem kO_X4_used : Cond.instanceMethod yX4_used ∈ T0 := T0_mem (i := 575) (by decide +kernel) (by decide +kernel)
theorem kV_X4_used : Cond.selects RX4 yX4_used yX4_used ∈ T0 := T0_mem (i := 576) (by decide +kernel) (by decide +kernel)
theorem kC_X4_seam : Cond.code yX4_seam cX4_seam 6 (some .int) ∈ T0 := T0_mem (i := 584) (by decide +kernel) (by decide +kernel)
theorem kM_RL_69 : Cond.methodLink RL 69 yX4_seam ∈ T0 := T0_mem (i := 581) (by decide +kernel) (by decide +kernel)
theorem hd_X4_seam : yX4_seam.cls ≠ "java/lang/invoke/MethodHandle" ∧ yX4_seam.cls ≠ "java/lang/invoke/VarHandle" ∧ (parseMethodDescriptor yX4_seam.desc).map (fun d => d.parameters.length) = some 2 := by decide +kernel
theorem kO_X4_seam : Cond.instanceMethod yX4_seam ∈ T0 := T0_mem (i := 582) (by decide +kernel) (by decide +kernel)
theorem kV_X4_seam : Cond.selects RX4 yX4_seam yX4_seam ∈ T0 := T0_mem (i := 583) (by decide +kernel) (by decide +kernel)
theorem kC_X4_meanError : Cond.code yX4_meanError cX4_meanError 4 (some .float) ∈ T0 := T0_mem (i := 610) (by decide +kernel) (by decide +kernel)
theorem kM_RL_72 : Cond.methodLink RL 72 yX4_meanError ∈ T0 := T0_mem (i := 607) (by decide +kernel) (by decide +kernel)
theorem hd_X4_meanError : yX4_meanError.cls ≠ "java/lang/invoke/MethodHandle" ∧ yX4_meanError.cls ≠ "java/lang/invoke/VarHandle" ∧ (parseMethodDescriptor yX4_meanError.desc).map (fun d => d.parameters.length) = some 1 := by decide +kernel
theorem kO_X4_meanError : Cond.instanceMethod yX4_meanError ∈ T0 := T0_mem (i := 608) (by decide +kernel) (by decide +kernel)
theorem kV_X4_meanError : Cond.selects RX4 yX4_meanError yX4_meanError ∈ T0 := T0_mem (i := 609) (by decide +kernel) (by decide +kernel)
set_option maxHeartbeats 4000000 in
set_option maxRecDepth 100000 in
theorem met_L_begin (l : Launch) (hst : l.stackTraces = false) (p0 : Option Nat) (x1 : Int32) (x2 : Int32) (x3 : Int32) (x4 : Int32) (x5 : Int32) (p6 : Option Nat) : HI l yL_begin cL_begin 8 (some .int) [(0, 16, 19, 13), (0, 16, 23, 15)] 7 114 57 5060 [va_rf p0, .int x1, .int x2, .int x3, .int x4, .int x5, va_rf p6] (wL_begin p0 x1 x2 x3 x4 x5 p6) := by
  refine HI.of (by decide) (by simp [lg_sl, rf_cat, cat_i, cat_r, cat_n, cat_j, cat_f, cat_d]) ?_
  intro p e s m below meth c D cs lo S Q ls B hr hlk hin htb
  intro h hl hw
  replace hl : lv_has ls 8 [(0, va_rf p0), (1, .int x1), (2, .int x2), (3, .int x3), (4, .int x4), (5, .int x5), (6, va_rf p6)] := by simpa [lv_args, rf_cat, cat_i, cat_r, cat_n, cat_j, cat_f, cat_d] using hl
  refine q_aload B.1.1 B.1.2.1 dL_begin_0 (lv_at hl 6 rfl) ?_
  refine lv_iconst (v := (0 : Int32)) B.1.1 B.1.2.1 dL_begin_2 (by decide) ?_
  refine q_aload_n B.1.1 B.1.2.1 dL_begin_3 rfl (lv_at hl 0 rfl) ?_
  refine lv_iload_n B.1.1 B.1.2.1 dL_begin_4 rfl (lv_at hl 1 rfl) ?_
  refine lv_iload_n B.1.1 B.1.2.1 dL_begin_5 rfl (lv_at hl 2 rfl) ?_
  refine lv_iload_n B.1.1 B.1.2.1 dL_begin_6 rfl (lv_at hl 3 rfl) ?_
  refine lv_iload B.1.1 B.1.2.1 dL_begin_7 (lv_at hl 4 rfl) ?_
  refine lv_iload B.1.1 B.1.2.1 dL_begin_9 (lv_at hl 5 rfl) ?_
  obtain ⟨q1, hn, hw⟩ := hw
  subst hn
  replace hl : lv_has ls 8 [(0, .ref q1), (1, .int x1), (2, .int x2), (3, .int x3), (4, .int x4), (5, .int x5), (6, va_rf p6)] := hl
  obtain ⟨hok, hw⟩ := hw
  refine q_callxI B h (met_X4_begin l hst q1 x1 x2 x3 x4 x5) (CB B 5 kC_X4_begin kI_RX4 kM_RL_7 hd_X4_begin ⟨Nat.le_of_ble_eq_true rfl, Nat.le_of_ble_eq_true rfl⟩) kO_X4_begin kV_X4_begin (ci := 4) rfl (by decide) hok.1 hok.2 (rest := [.int (0 : Int32), va_rf p6]) rfl rfl hl.1 (by simp [rf_cat, cat_i, cat_r, cat_n, cat_j, cat_f, cat_d]) dL_begin_11 ⟨Nat.le_of_ble_eq_true rfl, Nat.le_of_ble_eq_true rfl⟩ hw (fun E ce q9 S2 H locs hw9 h9 hce hcv hcl => ?_) (fun r1 S1 H locs hw9 h9 => ?_)
  · replace hw := hw9
    clear hw9
    replace h := h9
    clear h9
    rcases hw with ⟨rfl, hw⟩ | ⟨rfl, hw⟩
    · refine q_catch1 B htb (by decide) (by decide) kL_RL_13 kK_java_lang_IllegalArgumentException hce hcv hcl ?_
      refine lv_astore (i := 7) (lv' := [(7, .ref q9), (0, .ref q1), (1, .int x1), (2, .int x2), (3, .int x3), (4, .int x4), (5, .int x5), (6, va_rf p6)]) B.1.1 B.1.2.1 dL_begin_19 hl (by decide) (by simp [List.filter, rf_cat, cat_i, cat_r, cat_n]) (fun ls hl9 => ?_)
      replace hl := hl9
      clear hl9
      refine lv_iconst (v := (1 : Int32)) B.1.1 B.1.2.1 dL_begin_21 (by decide) ?_
      exact q_iret B hr hlk h hw dL_begin_22 (Nat.le_of_ble_eq_true rfl) (Nat.le_of_ble_eq_true rfl)
    · refine q_catch2 B htb (by decide) (by decide) (by decide) kL_RL_13 (by decide) kL_RL_15 kK_java_lang_IllegalStateException hce hcv hcl ?_
      refine lv_astore (i := 7) (lv' := [(7, .ref q9), (0, .ref q1), (1, .int x1), (2, .int x2), (3, .int x3), (4, .int x4), (5, .int x5), (6, va_rf p6)]) B.1.1 B.1.2.1 dL_begin_23 hl (by decide) (by simp [List.filter, rf_cat, cat_i, cat_r, cat_n]) (fun ls hl9 => ?_)
      replace hl := hl9
      clear hl9
      refine lv_iconst (v := (2 : Int32)) B.1.1 B.1.2.1 dL_begin_25 (by decide) ?_
      exact q_iret B hr hlk h hw dL_begin_26 (Nat.le_of_ble_eq_true rfl) (Nat.le_of_ble_eq_true rfl)
  · replace hw := hw9
    clear hw9
    replace h := h9
    clear h9
    refine lv_i2l B.1.1 B.1.2.1 dL_begin_14 rfl ?_
    obtain ⟨q2, hn, hw⟩ := hw
    subst hn
    replace hl : lv_has ls 8 [(0, .ref q1), (1, .int x1), (2, .int x2), (3, .int x3), (4, .int x4), (5, .int x5), (6, .ref q2)] := hl
    obtain ⟨hok, hin9, hw⟩ := hw
    refine q_last B h dL_begin_15 hok.1 hok.2 hin9 (fun H locs h9 => ?_)
    obtain ⟨S3, hS3, hh⟩ : ∃ z, z = sJ S1 q2 (0 : Int32).toNatClampNeg (r1).toInt64 ∧ Hx D cs lo s z H _ := ⟨_, rfl, h9⟩
    clear h9
    replace h := hh
    clear hh
    replace hw := hw S3 hS3
    refine lv_goto (tgt := 27) B.1.1 B.1.2.1 dL_begin_16 (by decide) ?_
    refine lv_iconst (v := (0 : Int32)) B.1.1 B.1.2.1 dL_begin_27 (by decide) ?_
    exact q_iret B hr hlk h hw dL_begin_28 (Nat.le_of_ble_eq_true rfl) (Nat.le_of_ble_eq_true rfl)
set_option maxHeartbeats 4000000 in
set_option maxRecDepth 100000 in
theorem met_L_fill (l : Launch) (hst : l.stackTraces = false) (p0 : Option Nat) (x1 : Int32) (x2 : Int32) (x3 : Int32) (x4 : Int32) (x5 : Int32) (p6 : Option Nat) : HI l yL_fill cL_fill 8 (some .int) [(0, 16, 19, 20), (0, 16, 23, 13)] 7 108 1 6 [va_rf p0, .int x1, .int x2, .int x3, .int x4, .int x5, va_rf p6] (wL_fill p0 x1 x2 x3 x4 x5 p6) := by
  refine HI.of (by decide) (by simp [lg_sl, rf_cat, cat_i, cat_r, cat_n, cat_j, cat_f, cat_d]) ?_
  intro p e s m below meth c D cs lo S Q ls B hr hlk hin htb
  intro h hl hw
  replace hl : lv_has ls 8 [(0, va_rf p0), (1, .int x1), (2, .int x2), (3, .int x3), (4, .int x4), (5, .int x5), (6, va_rf p6)] := by simpa [lv_args, rf_cat, cat_i, cat_r, cat_n, cat_j, cat_f, cat_d] using hl
  refine q_aload B.1.1 B.1.2.1 dL_fill_0 (lv_at hl 6 rfl) ?_
  refine lv_iconst (v := (0 : Int32)) B.1.1 B.1.2.1 dL_fill_2 (by decide) ?_
  refine q_aload_n B.1.1 B.1.2.1 dL_fill_3 rfl (lv_at hl 0 rfl) ?_
  refine lv_iload_n B.1.1 B.1.2.1 dL_fill_4 rfl (lv_at hl 1 rfl) ?_
  refine lv_iload_n B.1.1 B.1.2.1 dL_fill_5 rfl (lv_at hl 2 rfl) ?_
  refine lv_iload_n B.1.1 B.1.2.1 dL_fill_6 rfl (lv_at hl 3 rfl) ?_
  refine lv_iload B.1.1 B.1.2.1 dL_fill_7 (lv_at hl 4 rfl) ?_
  refine lv_iload B.1.1 B.1.2.1 dL_fill_9 (lv_at hl 5 rfl) ?_
  obtain ⟨q1, hn, hw⟩ := hw
  subst hn
  replace hl : lv_has ls 8 [(0, .ref q1), (1, .int x1), (2, .int x2), (3, .int x3), (4, .int x4), (5, .int x5), (6, va_rf p6)] := hl
  obtain ⟨hok, hw⟩ := hw
  refine q_callxI B h (met_X4_fill l hst q1 x1 x2 x3 x4 x5) (CB B 5 kC_X4_fill kI_RX4 kM_RL_17 hd_X4_fill ⟨Nat.le_of_ble_eq_true rfl, Nat.le_of_ble_eq_true rfl⟩) kO_X4_fill kV_X4_fill (ci := 4) rfl (by decide) hok.1 hok.2 (rest := [.int (0 : Int32), va_rf p6]) rfl rfl hl.1 (by simp [rf_cat, cat_i, cat_r, cat_n, cat_j, cat_f, cat_d]) dL_fill_11 ⟨Nat.le_of_ble_eq_true rfl, Nat.le_of_ble_eq_true rfl⟩ hw (fun E ce q9 S2 H locs hw9 h9 hce hcv hcl => ?_) (fun r1 S1 H locs hw9 h9 => ?_)
  · replace hw := hw9
    clear hw9
    replace h := h9
    clear h9
    rcases hw with ⟨rfl, hw⟩ | ⟨rfl, hw⟩
    · refine q_catch1 B htb (by decide) (by decide) kL_RL_20 kK_java_lang_IndexOutOfBoundsException hce hcv hcl ?_
      refine lv_astore (i := 7) (lv' := [(7, .ref q9), (0, .ref q1), (1, .int x1), (2, .int x2), (3, .int x3), (4, .int x4), (5, .int x5), (6, va_rf p6)]) B.1.1 B.1.2.1 dL_fill_19 hl (by decide) (by simp [List.filter, rf_cat, cat_i, cat_r, cat_n]) (fun ls hl9 => ?_)
      replace hl := hl9
      clear hl9
      refine lv_iconst (v := (1 : Int32)) B.1.1 B.1.2.1 dL_fill_21 (by decide) ?_
      exact q_iret B hr hlk h hw dL_fill_22 (Nat.le_of_ble_eq_true rfl) (Nat.le_of_ble_eq_true rfl)
    · refine q_catch2 B htb (by decide) (by decide) (by decide) kL_RL_20 (by decide) kL_RL_13 kK_java_lang_IllegalArgumentException hce hcv hcl ?_
      refine lv_astore (i := 7) (lv' := [(7, .ref q9), (0, .ref q1), (1, .int x1), (2, .int x2), (3, .int x3), (4, .int x4), (5, .int x5), (6, va_rf p6)]) B.1.1 B.1.2.1 dL_fill_23 hl (by decide) (by simp [List.filter, rf_cat, cat_i, cat_r, cat_n]) (fun ls hl9 => ?_)
      replace hl := hl9
      clear hl9
      refine lv_iconst (v := (2 : Int32)) B.1.1 B.1.2.1 dL_fill_25 (by decide) ?_
      exact q_iret B hr hlk h hw dL_fill_26 (Nat.le_of_ble_eq_true rfl) (Nat.le_of_ble_eq_true rfl)
  · replace hw := hw9
    clear hw9
    replace h := h9
    clear h9
    refine lv_i2l B.1.1 B.1.2.1 dL_fill_14 rfl ?_
    obtain ⟨q2, hn, hw⟩ := hw
    subst hn
    replace hl : lv_has ls 8 [(0, .ref q1), (1, .int x1), (2, .int x2), (3, .int x3), (4, .int x4), (5, .int x5), (6, .ref q2)] := hl
    obtain ⟨hok, hin9, hw⟩ := hw
    refine q_last B h dL_fill_15 hok.1 hok.2 hin9 (fun H locs h9 => ?_)
    obtain ⟨S3, hS3, hh⟩ : ∃ z, z = sJ S1 q2 (0 : Int32).toNatClampNeg (r1).toInt64 ∧ Hx D cs lo s z H _ := ⟨_, rfl, h9⟩
    clear h9
    replace h := hh
    clear hh
    replace hw := hw S3 hS3
    refine lv_goto (tgt := 27) B.1.1 B.1.2.1 dL_fill_16 (by decide) ?_
    refine lv_iconst (v := (0 : Int32)) B.1.1 B.1.2.1 dL_fill_27 (by decide) ?_
    exact q_iret B hr hlk h hw dL_fill_28 (Nat.le_of_ble_eq_true rfl) (Nat.le_of_ble_eq_true rfl)
set_option maxHeartbeats 4000000 in
set_option maxRecDepth 100000 in
theorem met_L_strips (l : Launch) (hst : l.stackTraces = false) (p0 : Option Nat) (x1 : Int32) (p2 : Option Nat) : HI l yL_strips cL_strips 4 (some .int) [(0, 9, 12, 20)] 7 104 1 6 [va_rf p0, .int x1, va_rf p2] (wL_strips p0 x1 p2) := by
  refine HI.of (by decide) (by simp [lg_sl, rf_cat, cat_i, cat_r, cat_n, cat_j, cat_f, cat_d]) ?_
  intro p e s m below meth c D cs lo S Q ls B hr hlk hin htb
  intro h hl hw
  replace hl : lv_has ls 4 [(0, va_rf p0), (1, .int x1), (2, va_rf p2)] := by simpa [lv_args, rf_cat, cat_i, cat_r, cat_n, cat_j, cat_f, cat_d] using hl
  refine q_aload_n B.1.1 B.1.2.1 dL_strips_0 rfl (lv_at hl 2 rfl) ?_
  refine lv_iconst (v := (0 : Int32)) B.1.1 B.1.2.1 dL_strips_1 (by decide) ?_
  refine q_aload_n B.1.1 B.1.2.1 dL_strips_2 rfl (lv_at hl 0 rfl) ?_
  refine lv_iload_n B.1.1 B.1.2.1 dL_strips_3 rfl (lv_at hl 1 rfl) ?_
  obtain ⟨q1, hn, hw⟩ := hw
  subst hn
  replace hl : lv_has ls 4 [(0, .ref q1), (1, .int x1), (2, va_rf p2)] := hl
  obtain ⟨hok, hw⟩ := hw
  refine q_callxI B h (met_X4_strips l hst q1 x1) (CB B 1 kC_X4_strips kI_RX4 kM_RL_22 hd_X4_strips ⟨Nat.le_of_ble_eq_true rfl, Nat.le_of_ble_eq_true rfl⟩) kO_X4_strips kV_X4_strips (ci := 4) rfl (by decide) hok.1 hok.2 (rest := [.int (0 : Int32), va_rf p2]) rfl rfl hl.1 (by simp [rf_cat, cat_i, cat_r, cat_n, cat_j, cat_f, cat_d]) dL_strips_4 ⟨Nat.le_of_ble_eq_true rfl, Nat.le_of_ble_eq_true rfl⟩ hw (fun E ce q9 S2 H locs hw9 h9 hce hcv hcl => ?_) (fun r1 S1 H locs hw9 h9 => ?_)
  · replace hw := hw9
    clear hw9
    replace h := h9
    clear h9
    obtain ⟨rfl, hw⟩ := hw
    · refine q_catch1 B htb (by decide) (by decide) kL_RL_20 kK_java_lang_IndexOutOfBoundsException hce hcv hcl ?_
      refine lv_astore_n (i := 3) (lv' := [(3, .ref q9), (0, .ref q1), (1, .int x1), (2, va_rf p2)]) B.1.1 B.1.2.1 dL_strips_12 rfl hl (by decide) (by simp [List.filter, rf_cat, cat_i, cat_r, cat_n]) (fun ls hl9 => ?_)
      replace hl := hl9
      clear hl9
      refine lv_iconst (v := (1 : Int32)) B.1.1 B.1.2.1 dL_strips_13 (by decide) ?_
      exact q_iret B hr hlk h hw dL_strips_14 (Nat.le_of_ble_eq_true rfl) (Nat.le_of_ble_eq_true rfl)
  · replace hw := hw9
    clear hw9
    replace h := h9
    clear h9
    refine lv_i2l B.1.1 B.1.2.1 dL_strips_7 rfl ?_
    obtain ⟨q2, hn, hw⟩ := hw
    subst hn
    replace hl : lv_has ls 4 [(0, .ref q1), (1, .int x1), (2, .ref q2)] := hl
    obtain ⟨hok, hin9, hw⟩ := hw
    refine q_last B h dL_strips_8 hok.1 hok.2 hin9 (fun H locs h9 => ?_)
    obtain ⟨S3, hS3, hh⟩ : ∃ z, z = sJ S1 q2 (0 : Int32).toNatClampNeg (r1).toInt64 ∧ Hx D cs lo s z H _ := ⟨_, rfl, h9⟩
    clear h9
    replace h := hh
    clear hh
    replace hw := hw S3 hS3
    refine lv_goto (tgt := 15) B.1.1 B.1.2.1 dL_strips_9 (by decide) ?_
    refine lv_iconst (v := (0 : Int32)) B.1.1 B.1.2.1 dL_strips_15 (by decide) ?_
    exact q_iret B hr hlk h hw dL_strips_16 (Nat.le_of_ble_eq_true rfl) (Nat.le_of_ble_eq_true rfl)
set_option maxHeartbeats 4000000 in
set_option maxRecDepth 100000 in
theorem met_L_toLay (l : Launch) (hst : l.stackTraces = false) (p0 : Option Nat) (x1 : Int32) (x2 : Int32) (x3 : Int32) (x4 : Int32) (p5 : Option Nat) : HI l yL_toLay cL_toLay 7 (some .int) [(0, 14, 17, 20)] 7 108 1 6 [va_rf p0, .int x1, .int x2, .int x3, .int x4, va_rf p5] (wL_toLay p0 x1 x2 x3 x4 p5) := by
  refine HI.of (by decide) (by simp [lg_sl, rf_cat, cat_i, cat_r, cat_n, cat_j, cat_f, cat_d]) ?_
  intro p e s m below meth c D cs lo S Q ls B hr hlk hin htb
  intro h hl hw
  replace hl : lv_has ls 7 [(0, va_rf p0), (1, .int x1), (2, .int x2), (3, .int x3), (4, .int x4), (5, va_rf p5)] := by simpa [lv_args, rf_cat, cat_i, cat_r, cat_n, cat_j, cat_f, cat_d] using hl
  refine q_aload B.1.1 B.1.2.1 dL_toLay_0 (lv_at hl 5 rfl) ?_
  refine lv_iconst (v := (0 : Int32)) B.1.1 B.1.2.1 dL_toLay_2 (by decide) ?_
  refine q_aload_n B.1.1 B.1.2.1 dL_toLay_3 rfl (lv_at hl 0 rfl) ?_
  refine lv_iload_n B.1.1 B.1.2.1 dL_toLay_4 rfl (lv_at hl 1 rfl) ?_
  refine lv_iload_n B.1.1 B.1.2.1 dL_toLay_5 rfl (lv_at hl 2 rfl) ?_
  refine lv_iload_n B.1.1 B.1.2.1 dL_toLay_6 rfl (lv_at hl 3 rfl) ?_
  refine lv_iload B.1.1 B.1.2.1 dL_toLay_7 (lv_at hl 4 rfl) ?_
  obtain ⟨q1, hn, hw⟩ := hw
  subst hn
  replace hl : lv_has ls 7 [(0, .ref q1), (1, .int x1), (2, .int x2), (3, .int x3), (4, .int x4), (5, va_rf p5)] := hl
  obtain ⟨hok, hw⟩ := hw
  refine q_callxI B h (met_X4_toLay l hst q1 x1 x2 x3 x4) (CB B 4 kC_X4_toLay kI_RX4 kM_RL_26 hd_X4_toLay ⟨Nat.le_of_ble_eq_true rfl, Nat.le_of_ble_eq_true rfl⟩) kO_X4_toLay kV_X4_toLay (ci := 4) rfl (by decide) hok.1 hok.2 (rest := [.int (0 : Int32), va_rf p5]) rfl rfl hl.1 (by simp [rf_cat, cat_i, cat_r, cat_n, cat_j, cat_f, cat_d]) dL_toLay_9 ⟨Nat.le_of_ble_eq_true rfl, Nat.le_of_ble_eq_true rfl⟩ hw (fun E ce q9 S2 H locs hw9 h9 hce hcv hcl => ?_) (fun r1 S1 H locs hw9 h9 => ?_)
  · replace hw := hw9
    clear hw9
    replace h := h9
    clear h9
    obtain ⟨rfl, hw⟩ := hw
    · refine q_catch1 B htb (by decide) (by decide) kL_RL_20 kK_java_lang_IndexOutOfBoundsException hce hcv hcl ?_
      refine lv_astore (i := 6) (lv' := [(6, .ref q9), (0, .ref q1), (1, .int x1), (2, .int x2), (3, .int x3), (4, .int x4), (5, va_rf p5)]) B.1.1 B.1.2.1 dL_toLay_17 hl (by decide) (by simp [List.filter, rf_cat, cat_i, cat_r, cat_n]) (fun ls hl9 => ?_)
      replace hl := hl9
      clear hl9
      refine lv_iconst (v := (1 : Int32)) B.1.1 B.1.2.1 dL_toLay_19 (by decide) ?_
      exact q_iret B hr hlk h hw dL_toLay_20 (Nat.le_of_ble_eq_true rfl) (Nat.le_of_ble_eq_true rfl)
  · replace hw := hw9
    clear hw9
    replace h := h9
    clear h9
    refine lv_i2l B.1.1 B.1.2.1 dL_toLay_12 rfl ?_
    obtain ⟨q2, hn, hw⟩ := hw
    subst hn
    replace hl : lv_has ls 7 [(0, .ref q1), (1, .int x1), (2, .int x2), (3, .int x3), (4, .int x4), (5, .ref q2)] := hl
    obtain ⟨hok, hin9, hw⟩ := hw
    refine q_last B h dL_toLay_13 hok.1 hok.2 hin9 (fun H locs h9 => ?_)
    obtain ⟨S3, hS3, hh⟩ : ∃ z, z = sJ S1 q2 (0 : Int32).toNatClampNeg (r1).toInt64 ∧ Hx D cs lo s z H _ := ⟨_, rfl, h9⟩
    clear h9
    replace h := hh
    clear hh
    replace hw := hw S3 hS3
    refine lv_goto (tgt := 21) B.1.1 B.1.2.1 dL_toLay_14 (by decide) ?_
    refine lv_iconst (v := (0 : Int32)) B.1.1 B.1.2.1 dL_toLay_21 (by decide) ?_
    exact q_iret B hr hlk h hw dL_toLay_22 (Nat.le_of_ble_eq_true rfl) (Nat.le_of_ble_eq_true rfl)
set_option maxHeartbeats 4000000 in
set_option maxRecDepth 100000 in
theorem met_L_setGain (l : Launch) (hst : l.stackTraces = false) (p0 : Option Nat) (x1 : Int32) (x2 : Int32) (p3 : Option Nat) : HI l yL_setGain cL_setGain 5 (some .int) [(0, 10, 13, 20), (0, 10, 17, 13)] 7 106 1 6 [va_rf p0, .int x1, .int x2, va_rf p3] (wL_setGain p0 x1 x2 p3) := by
  refine HI.of (by decide) (by simp [lg_sl, rf_cat, cat_i, cat_r, cat_n, cat_j, cat_f, cat_d]) ?_
  intro p e s m below meth c D cs lo S Q ls B hr hlk hin htb
  intro h hl hw
  replace hl : lv_has ls 5 [(0, va_rf p0), (1, .int x1), (2, .int x2), (3, va_rf p3)] := by simpa [lv_args, rf_cat, cat_i, cat_r, cat_n, cat_j, cat_f, cat_d] using hl
  refine q_aload_n B.1.1 B.1.2.1 dL_setGain_0 rfl (lv_at hl 3 rfl) ?_
  refine lv_iconst (v := (0 : Int32)) B.1.1 B.1.2.1 dL_setGain_1 (by decide) ?_
  refine q_aload_n B.1.1 B.1.2.1 dL_setGain_2 rfl (lv_at hl 0 rfl) ?_
  refine lv_iload_n B.1.1 B.1.2.1 dL_setGain_3 rfl (lv_at hl 1 rfl) ?_
  refine lv_iload_n B.1.1 B.1.2.1 dL_setGain_4 rfl (lv_at hl 2 rfl) ?_
  obtain ⟨q1, hn, hw⟩ := hw
  subst hn
  replace hl : lv_has ls 5 [(0, .ref q1), (1, .int x1), (2, .int x2), (3, va_rf p3)] := hl
  obtain ⟨hok, hw⟩ := hw
  refine q_callxI B h (met_X4_setGain l hst q1 x1 x2) (CB B 2 kC_X4_setGain kI_RX4 kM_RL_30 hd_X4_setGain ⟨Nat.le_of_ble_eq_true rfl, Nat.le_of_ble_eq_true rfl⟩) kO_X4_setGain kV_X4_setGain (ci := 4) rfl (by decide) hok.1 hok.2 (rest := [.int (0 : Int32), va_rf p3]) rfl rfl hl.1 (by simp [rf_cat, cat_i, cat_r, cat_n, cat_j, cat_f, cat_d]) dL_setGain_5 ⟨Nat.le_of_ble_eq_true rfl, Nat.le_of_ble_eq_true rfl⟩ hw (fun E ce q9 S2 H locs hw9 h9 hce hcv hcl => ?_) (fun r1 S1 H locs hw9 h9 => ?_)
  · replace hw := hw9
    clear hw9
    replace h := h9
    clear h9
    rcases hw with ⟨rfl, hw⟩ | ⟨rfl, hw⟩
    · refine q_catch1 B htb (by decide) (by decide) kL_RL_20 kK_java_lang_IndexOutOfBoundsException hce hcv hcl ?_
      refine lv_astore (i := 4) (lv' := [(4, .ref q9), (0, .ref q1), (1, .int x1), (2, .int x2), (3, va_rf p3)]) B.1.1 B.1.2.1 dL_setGain_13 hl (by decide) (by simp [List.filter, rf_cat, cat_i, cat_r, cat_n]) (fun ls hl9 => ?_)
      replace hl := hl9
      clear hl9
      refine lv_iconst (v := (1 : Int32)) B.1.1 B.1.2.1 dL_setGain_15 (by decide) ?_
      exact q_iret B hr hlk h hw dL_setGain_16 (Nat.le_of_ble_eq_true rfl) (Nat.le_of_ble_eq_true rfl)
    · refine q_catch2 B htb (by decide) (by decide) (by decide) kL_RL_20 (by decide) kL_RL_13 kK_java_lang_IllegalArgumentException hce hcv hcl ?_
      refine lv_astore (i := 4) (lv' := [(4, .ref q9), (0, .ref q1), (1, .int x1), (2, .int x2), (3, va_rf p3)]) B.1.1 B.1.2.1 dL_setGain_17 hl (by decide) (by simp [List.filter, rf_cat, cat_i, cat_r, cat_n]) (fun ls hl9 => ?_)
      replace hl := hl9
      clear hl9
      refine lv_iconst (v := (2 : Int32)) B.1.1 B.1.2.1 dL_setGain_19 (by decide) ?_
      exact q_iret B hr hlk h hw dL_setGain_20 (Nat.le_of_ble_eq_true rfl) (Nat.le_of_ble_eq_true rfl)
  · replace hw := hw9
    clear hw9
    replace h := h9
    clear h9
    refine lv_i2l B.1.1 B.1.2.1 dL_setGain_8 rfl ?_
    obtain ⟨q2, hn, hw⟩ := hw
    subst hn
    replace hl : lv_has ls 5 [(0, .ref q1), (1, .int x1), (2, .int x2), (3, .ref q2)] := hl
    obtain ⟨hok, hin9, hw⟩ := hw
    refine q_last B h dL_setGain_9 hok.1 hok.2 hin9 (fun H locs h9 => ?_)
    obtain ⟨S3, hS3, hh⟩ : ∃ z, z = sJ S1 q2 (0 : Int32).toNatClampNeg (r1).toInt64 ∧ Hx D cs lo s z H _ := ⟨_, rfl, h9⟩
    clear h9
    replace h := hh
    clear hh
    replace hw := hw S3 hS3
    refine lv_goto (tgt := 21) B.1.1 B.1.2.1 dL_setGain_10 (by decide) ?_
    refine lv_iconst (v := (0 : Int32)) B.1.1 B.1.2.1 dL_setGain_21 (by decide) ?_
    exact q_iret B hr hlk h hw dL_setGain_22 (Nat.le_of_ble_eq_true rfl) (Nat.le_of_ble_eq_true rfl)
set_option maxHeartbeats 4000000 in
set_option maxRecDepth 100000 in
theorem met_L_match (l : Launch) (hst : l.stackTraces = false) (p0 : Option Nat) (x1 : Int32) (p2 : Option Nat) : HI l yL_match cL_match 4 (some .int) [(0, 9, 12, 20)] 7 104 1 6 [va_rf p0, .int x1, va_rf p2] (wL_match p0 x1 p2) := by
  refine HI.of (by decide) (by simp [lg_sl, rf_cat, cat_i, cat_r, cat_n, cat_j, cat_f, cat_d]) ?_
  intro p e s m below meth c D cs lo S Q ls B hr hlk hin htb
  intro h hl hw
  replace hl : lv_has ls 4 [(0, va_rf p0), (1, .int x1), (2, va_rf p2)] := by simpa [lv_args, rf_cat, cat_i, cat_r, cat_n, cat_j, cat_f, cat_d] using hl
  refine q_aload_n B.1.1 B.1.2.1 dL_match_0 rfl (lv_at hl 2 rfl) ?_
  refine lv_iconst (v := (0 : Int32)) B.1.1 B.1.2.1 dL_match_1 (by decide) ?_
  refine q_aload_n B.1.1 B.1.2.1 dL_match_2 rfl (lv_at hl 0 rfl) ?_
  refine lv_iload_n B.1.1 B.1.2.1 dL_match_3 rfl (lv_at hl 1 rfl) ?_
  obtain ⟨q1, hn, hw⟩ := hw
  subst hn
  replace hl : lv_has ls 4 [(0, .ref q1), (1, .int x1), (2, va_rf p2)] := hl
  obtain ⟨hok, hw⟩ := hw
  refine q_callxI B h (met_X4_match l hst q1 x1) (CB B 1 kC_X4_match kI_RX4 kM_RL_34 hd_X4_match ⟨Nat.le_of_ble_eq_true rfl, Nat.le_of_ble_eq_true rfl⟩) kO_X4_match kV_X4_match (ci := 4) rfl (by decide) hok.1 hok.2 (rest := [.int (0 : Int32), va_rf p2]) rfl rfl hl.1 (by simp [rf_cat, cat_i, cat_r, cat_n, cat_j, cat_f, cat_d]) dL_match_4 ⟨Nat.le_of_ble_eq_true rfl, Nat.le_of_ble_eq_true rfl⟩ hw (fun E ce q9 S2 H locs hw9 h9 hce hcv hcl => ?_) (fun r1 S1 H locs hw9 h9 => ?_)
  · replace hw := hw9
    clear hw9
    replace h := h9
    clear h9
    obtain ⟨rfl, hw⟩ := hw
    · refine q_catch1 B htb (by decide) (by decide) kL_RL_20 kK_java_lang_IndexOutOfBoundsException hce hcv hcl ?_
      refine lv_astore_n (i := 3) (lv' := [(3, .ref q9), (0, .ref q1), (1, .int x1), (2, va_rf p2)]) B.1.1 B.1.2.1 dL_match_12 rfl hl (by decide) (by simp [List.filter, rf_cat, cat_i, cat_r, cat_n]) (fun ls hl9 => ?_)
      replace hl := hl9
      clear hl9
      refine lv_iconst (v := (1 : Int32)) B.1.1 B.1.2.1 dL_match_13 (by decide) ?_
      exact q_iret B hr hlk h hw dL_match_14 (Nat.le_of_ble_eq_true rfl) (Nat.le_of_ble_eq_true rfl)
  · replace hw := hw9
    clear hw9
    replace h := h9
    clear h9
    refine lv_i2l B.1.1 B.1.2.1 dL_match_7 rfl ?_
    obtain ⟨q2, hn, hw⟩ := hw
    subst hn
    replace hl : lv_has ls 4 [(0, .ref q1), (1, .int x1), (2, .ref q2)] := hl
    obtain ⟨hok, hin9, hw⟩ := hw
    refine q_last B h dL_match_8 hok.1 hok.2 hin9 (fun H locs h9 => ?_)
    obtain ⟨S3, hS3, hh⟩ : ∃ z, z = sJ S1 q2 (0 : Int32).toNatClampNeg (r1).toInt64 ∧ Hx D cs lo s z H _ := ⟨_, rfl, h9⟩
    clear h9
    replace h := hh
    clear hh
    replace hw := hw S3 hS3
    refine lv_goto (tgt := 15) B.1.1 B.1.2.1 dL_match_9 (by decide) ?_
    refine lv_iconst (v := (0 : Int32)) B.1.1 B.1.2.1 dL_match_15 (by decide) ?_
    exact q_iret B hr hlk h hw dL_match_16 (Nat.le_of_ble_eq_true rfl) (Nat.le_of_ble_eq_true rfl)
set_option maxHeartbeats 4000000 in
set_option maxRecDepth 100000 in
theorem met_L_block (l : Launch) (hst : l.stackTraces = false) (p0 : Option Nat) (x1 : Int32) (x2 : Int32) (p3 : Option Nat) : HI l yL_block cL_block 5 (some .int) [(0, 10, 13, 20)] 7 105 1 6 [va_rf p0, .int x1, .int x2, va_rf p3] (wL_block p0 x1 x2 p3) := by
  refine HI.of (by decide) (by simp [lg_sl, rf_cat, cat_i, cat_r, cat_n, cat_j, cat_f, cat_d]) ?_
  intro p e s m below meth c D cs lo S Q ls B hr hlk hin htb
  intro h hl hw
  replace hl : lv_has ls 5 [(0, va_rf p0), (1, .int x1), (2, .int x2), (3, va_rf p3)] := by simpa [lv_args, rf_cat, cat_i, cat_r, cat_n, cat_j, cat_f, cat_d] using hl
  refine q_aload_n B.1.1 B.1.2.1 dL_block_0 rfl (lv_at hl 3 rfl) ?_
  refine lv_iconst (v := (0 : Int32)) B.1.1 B.1.2.1 dL_block_1 (by decide) ?_
  refine q_aload_n B.1.1 B.1.2.1 dL_block_2 rfl (lv_at hl 0 rfl) ?_
  refine lv_iload_n B.1.1 B.1.2.1 dL_block_3 rfl (lv_at hl 1 rfl) ?_
  refine lv_iload_n B.1.1 B.1.2.1 dL_block_4 rfl (lv_at hl 2 rfl) ?_
  obtain ⟨q1, hn, hw⟩ := hw
  subst hn
  replace hl : lv_has ls 5 [(0, .ref q1), (1, .int x1), (2, .int x2), (3, va_rf p3)] := hl
  obtain ⟨hok, hw⟩ := hw
  refine q_callxI B h (met_X4_block l hst q1 x1 x2) (CB B 2 kC_X4_block kI_RX4 kM_RL_37 hd_X4_block ⟨Nat.le_of_ble_eq_true rfl, Nat.le_of_ble_eq_true rfl⟩) kO_X4_block kV_X4_block (ci := 4) rfl (by decide) hok.1 hok.2 (rest := [.int (0 : Int32), va_rf p3]) rfl rfl hl.1 (by simp [rf_cat, cat_i, cat_r, cat_n, cat_j, cat_f, cat_d]) dL_block_5 ⟨Nat.le_of_ble_eq_true rfl, Nat.le_of_ble_eq_true rfl⟩ hw (fun E ce q9 S2 H locs hw9 h9 hce hcv hcl => ?_) (fun r1 S1 H locs hw9 h9 => ?_)
  · replace hw := hw9
    clear hw9
    replace h := h9
    clear h9
    obtain ⟨rfl, hw⟩ := hw
    · refine q_catch1 B htb (by decide) (by decide) kL_RL_20 kK_java_lang_IndexOutOfBoundsException hce hcv hcl ?_
      refine lv_astore (i := 4) (lv' := [(4, .ref q9), (0, .ref q1), (1, .int x1), (2, .int x2), (3, va_rf p3)]) B.1.1 B.1.2.1 dL_block_13 hl (by decide) (by simp [List.filter, rf_cat, cat_i, cat_r, cat_n]) (fun ls hl9 => ?_)
      replace hl := hl9
      clear hl9
      refine lv_iconst (v := (1 : Int32)) B.1.1 B.1.2.1 dL_block_15 (by decide) ?_
      exact q_iret B hr hlk h hw dL_block_16 (Nat.le_of_ble_eq_true rfl) (Nat.le_of_ble_eq_true rfl)
  · replace hw := hw9
    clear hw9
    replace h := h9
    clear h9
    refine lv_i2l B.1.1 B.1.2.1 dL_block_8 rfl ?_
    obtain ⟨q2, hn, hw⟩ := hw
    subst hn
    replace hl : lv_has ls 5 [(0, .ref q1), (1, .int x1), (2, .int x2), (3, .ref q2)] := hl
    obtain ⟨hok, hin9, hw⟩ := hw
    refine q_last B h dL_block_9 hok.1 hok.2 hin9 (fun H locs h9 => ?_)
    obtain ⟨S3, hS3, hh⟩ : ∃ z, z = sJ S1 q2 (0 : Int32).toNatClampNeg (r1).toInt64 ∧ Hx D cs lo s z H _ := ⟨_, rfl, h9⟩
    clear h9
    replace h := hh
    clear hh
    replace hw := hw S3 hS3
    refine lv_goto (tgt := 17) B.1.1 B.1.2.1 dL_block_10 (by decide) ?_
    refine lv_iconst (v := (0 : Int32)) B.1.1 B.1.2.1 dL_block_17 (by decide) ?_
    exact q_iret B hr hlk h hw dL_block_18 (Nat.le_of_ble_eq_true rfl) (Nat.le_of_ble_eq_true rfl)
set_option maxHeartbeats 4000000 in
set_option maxRecDepth 100000 in
theorem met_L_clean (l : Launch) (hst : l.stackTraces = false) (p0 : Option Nat) (x1 : Int32) (p2 : Option Nat) : HI l yL_clean cL_clean 4 (some .int) [(0, 9, 12, 20), (0, 9, 15, 15)] 7 105 1 6 [va_rf p0, .int x1, va_rf p2] (wL_clean p0 x1 p2) := by
  refine HI.of (by decide) (by simp [lg_sl, rf_cat, cat_i, cat_r, cat_n, cat_j, cat_f, cat_d]) ?_
  intro p e s m below meth c D cs lo S Q ls B hr hlk hin htb
  intro h hl hw
  replace hl : lv_has ls 4 [(0, va_rf p0), (1, .int x1), (2, va_rf p2)] := by simpa [lv_args, rf_cat, cat_i, cat_r, cat_n, cat_j, cat_f, cat_d] using hl
  refine q_aload_n B.1.1 B.1.2.1 dL_clean_0 rfl (lv_at hl 2 rfl) ?_
  refine lv_iconst (v := (0 : Int32)) B.1.1 B.1.2.1 dL_clean_1 (by decide) ?_
  refine q_aload_n B.1.1 B.1.2.1 dL_clean_2 rfl (lv_at hl 0 rfl) ?_
  refine lv_iload_n B.1.1 B.1.2.1 dL_clean_3 rfl (lv_at hl 1 rfl) ?_
  obtain ⟨q1, hn, hw⟩ := hw
  subst hn
  replace hl : lv_has ls 4 [(0, .ref q1), (1, .int x1), (2, va_rf p2)] := hl
  obtain ⟨hok, hw⟩ := hw
  refine q_callxI B h (met_X4_clean l hst q1 x1) (CB B 1 kC_X4_clean kI_RX4 kM_RL_40 hd_X4_clean ⟨Nat.le_of_ble_eq_true rfl, Nat.le_of_ble_eq_true rfl⟩) kO_X4_clean kV_X4_clean (ci := 4) rfl (by decide) hok.1 hok.2 (rest := [.int (0 : Int32), va_rf p2]) rfl rfl hl.1 (by simp [rf_cat, cat_i, cat_r, cat_n, cat_j, cat_f, cat_d]) dL_clean_4 ⟨Nat.le_of_ble_eq_true rfl, Nat.le_of_ble_eq_true rfl⟩ hw (fun E ce q9 S2 H locs hw9 h9 hce hcv hcl => ?_) (fun r1 S1 H locs hw9 h9 => ?_)
  · replace hw := hw9
    clear hw9
    replace h := h9
    clear h9
    rcases hw with ⟨rfl, hw⟩ | ⟨rfl, hw⟩
    · refine q_catch1 B htb (by decide) (by decide) kL_RL_20 kK_java_lang_IndexOutOfBoundsException hce hcv hcl ?_
      refine lv_astore_n (i := 3) (lv' := [(3, .ref q9), (0, .ref q1), (1, .int x1), (2, va_rf p2)]) B.1.1 B.1.2.1 dL_clean_12 rfl hl (by decide) (by simp [List.filter, rf_cat, cat_i, cat_r, cat_n]) (fun ls hl9 => ?_)
      replace hl := hl9
      clear hl9
      refine lv_iconst (v := (1 : Int32)) B.1.1 B.1.2.1 dL_clean_13 (by decide) ?_
      exact q_iret B hr hlk h hw dL_clean_14 (Nat.le_of_ble_eq_true rfl) (Nat.le_of_ble_eq_true rfl)
    · refine q_catch2 B htb (by decide) (by decide) (by decide) kL_RL_20 (by decide) kL_RL_15 kK_java_lang_IllegalStateException hce hcv hcl ?_
      refine lv_astore_n (i := 3) (lv' := [(3, .ref q9), (0, .ref q1), (1, .int x1), (2, va_rf p2)]) B.1.1 B.1.2.1 dL_clean_15 rfl hl (by decide) (by simp [List.filter, rf_cat, cat_i, cat_r, cat_n]) (fun ls hl9 => ?_)
      replace hl := hl9
      clear hl9
      refine lv_iconst (v := (2 : Int32)) B.1.1 B.1.2.1 dL_clean_16 (by decide) ?_
      exact q_iret B hr hlk h hw dL_clean_17 (Nat.le_of_ble_eq_true rfl) (Nat.le_of_ble_eq_true rfl)
  · replace hw := hw9
    clear hw9
    replace h := h9
    clear h9
    refine lv_i2l B.1.1 B.1.2.1 dL_clean_7 rfl ?_
    obtain ⟨q2, hn, hw⟩ := hw
    subst hn
    replace hl : lv_has ls 4 [(0, .ref q1), (1, .int x1), (2, .ref q2)] := hl
    obtain ⟨hok, hin9, hw⟩ := hw
    refine q_last B h dL_clean_8 hok.1 hok.2 hin9 (fun H locs h9 => ?_)
    obtain ⟨S3, hS3, hh⟩ : ∃ z, z = sJ S1 q2 (0 : Int32).toNatClampNeg (r1).toInt64 ∧ Hx D cs lo s z H _ := ⟨_, rfl, h9⟩
    clear h9
    replace h := hh
    clear hh
    replace hw := hw S3 hS3
    refine lv_goto (tgt := 18) B.1.1 B.1.2.1 dL_clean_9 (by decide) ?_
    refine lv_iconst (v := (0 : Int32)) B.1.1 B.1.2.1 dL_clean_18 (by decide) ?_
    exact q_iret B hr hlk h hw dL_clean_19 (Nat.le_of_ble_eq_true rfl) (Nat.le_of_ble_eq_true rfl)
set_option maxHeartbeats 4000000 in
set_option maxRecDepth 100000 in
theorem met_L_patch (l : Launch) (hst : l.stackTraces = false) (p0 : Option Nat) (x1 : Int32) (x2 : Int32) (x3 : Int32) (p4 : Option Nat) : HI l yL_patch cL_patch 6 (some .int) [(0, 12, 15, 20), (0, 12, 19, 13)] 7 107 1 6 [va_rf p0, .int x1, .int x2, .int x3, va_rf p4] (wL_patch p0 x1 x2 x3 p4) := by
  refine HI.of (by decide) (by simp [lg_sl, rf_cat, cat_i, cat_r, cat_n, cat_j, cat_f, cat_d]) ?_
  intro p e s m below meth c D cs lo S Q ls B hr hlk hin htb
  intro h hl hw
  replace hl : lv_has ls 6 [(0, va_rf p0), (1, .int x1), (2, .int x2), (3, .int x3), (4, va_rf p4)] := by simpa [lv_args, rf_cat, cat_i, cat_r, cat_n, cat_j, cat_f, cat_d] using hl
  refine q_aload B.1.1 B.1.2.1 dL_patch_0 (lv_at hl 4 rfl) ?_
  refine lv_iconst (v := (0 : Int32)) B.1.1 B.1.2.1 dL_patch_2 (by decide) ?_
  refine q_aload_n B.1.1 B.1.2.1 dL_patch_3 rfl (lv_at hl 0 rfl) ?_
  refine lv_iload_n B.1.1 B.1.2.1 dL_patch_4 rfl (lv_at hl 1 rfl) ?_
  refine lv_iload_n B.1.1 B.1.2.1 dL_patch_5 rfl (lv_at hl 2 rfl) ?_
  refine lv_iload_n B.1.1 B.1.2.1 dL_patch_6 rfl (lv_at hl 3 rfl) ?_
  obtain ⟨q1, hn, hw⟩ := hw
  subst hn
  replace hl : lv_has ls 6 [(0, .ref q1), (1, .int x1), (2, .int x2), (3, .int x3), (4, va_rf p4)] := hl
  obtain ⟨hok, hw⟩ := hw
  refine q_callxI B h (met_X4_patch l hst q1 x1 x2 x3) (CB B 3 kC_X4_patch kI_RX4 kM_RL_43 hd_X4_patch ⟨Nat.le_of_ble_eq_true rfl, Nat.le_of_ble_eq_true rfl⟩) kO_X4_patch kV_X4_patch (ci := 4) rfl (by decide) hok.1 hok.2 (rest := [.int (0 : Int32), va_rf p4]) rfl rfl hl.1 (by simp [rf_cat, cat_i, cat_r, cat_n, cat_j, cat_f, cat_d]) dL_patch_7 ⟨Nat.le_of_ble_eq_true rfl, Nat.le_of_ble_eq_true rfl⟩ hw (fun E ce q9 S2 H locs hw9 h9 hce hcv hcl => ?_) (fun r1 S1 H locs hw9 h9 => ?_)
  · replace hw := hw9
    clear hw9
    replace h := h9
    clear h9
    rcases hw with ⟨rfl, hw⟩ | ⟨rfl, hw⟩
    · refine q_catch1 B htb (by decide) (by decide) kL_RL_20 kK_java_lang_IndexOutOfBoundsException hce hcv hcl ?_
      refine lv_astore (i := 5) (lv' := [(5, .ref q9), (0, .ref q1), (1, .int x1), (2, .int x2), (3, .int x3), (4, va_rf p4)]) B.1.1 B.1.2.1 dL_patch_15 hl (by decide) (by simp [List.filter, rf_cat, cat_i, cat_r, cat_n]) (fun ls hl9 => ?_)
      replace hl := hl9
      clear hl9
      refine lv_iconst (v := (1 : Int32)) B.1.1 B.1.2.1 dL_patch_17 (by decide) ?_
      exact q_iret B hr hlk h hw dL_patch_18 (Nat.le_of_ble_eq_true rfl) (Nat.le_of_ble_eq_true rfl)
    · refine q_catch2 B htb (by decide) (by decide) (by decide) kL_RL_20 (by decide) kL_RL_13 kK_java_lang_IllegalArgumentException hce hcv hcl ?_
      refine lv_astore (i := 5) (lv' := [(5, .ref q9), (0, .ref q1), (1, .int x1), (2, .int x2), (3, .int x3), (4, va_rf p4)]) B.1.1 B.1.2.1 dL_patch_19 hl (by decide) (by simp [List.filter, rf_cat, cat_i, cat_r, cat_n]) (fun ls hl9 => ?_)
      replace hl := hl9
      clear hl9
      refine lv_iconst (v := (2 : Int32)) B.1.1 B.1.2.1 dL_patch_21 (by decide) ?_
      exact q_iret B hr hlk h hw dL_patch_22 (Nat.le_of_ble_eq_true rfl) (Nat.le_of_ble_eq_true rfl)
  · replace hw := hw9
    clear hw9
    replace h := h9
    clear h9
    refine lv_i2l B.1.1 B.1.2.1 dL_patch_10 rfl ?_
    obtain ⟨q2, hn, hw⟩ := hw
    subst hn
    replace hl : lv_has ls 6 [(0, .ref q1), (1, .int x1), (2, .int x2), (3, .int x3), (4, .ref q2)] := hl
    obtain ⟨hok, hin9, hw⟩ := hw
    refine q_last B h dL_patch_11 hok.1 hok.2 hin9 (fun H locs h9 => ?_)
    obtain ⟨S3, hS3, hh⟩ : ∃ z, z = sJ S1 q2 (0 : Int32).toNatClampNeg (r1).toInt64 ∧ Hx D cs lo s z H _ := ⟨_, rfl, h9⟩
    clear h9
    replace h := hh
    clear hh
    replace hw := hw S3 hS3
    refine lv_goto (tgt := 23) B.1.1 B.1.2.1 dL_patch_12 (by decide) ?_
    refine lv_iconst (v := (0 : Int32)) B.1.1 B.1.2.1 dL_patch_23 (by decide) ?_
    exact q_iret B hr hlk h hw dL_patch_24 (Nat.le_of_ble_eq_true rfl) (Nat.le_of_ble_eq_true rfl)
set_option maxHeartbeats 4000000 in
set_option maxRecDepth 100000 in
theorem met_L_put (l : Launch) (hst : l.stackTraces = false) (p0 : Option Nat) (x1 : Int32) (x2 : Int32) (x3 : Int32) (p4 : Option Nat) : HI l yL_put cL_put 6 (some .int) [(0, 12, 15, 20), (0, 12, 19, 15)] 7 107 1 6 [va_rf p0, .int x1, .int x2, .int x3, va_rf p4] (wL_put p0 x1 x2 x3 p4) := by
  refine HI.of (by decide) (by simp [lg_sl, rf_cat, cat_i, cat_r, cat_n, cat_j, cat_f, cat_d]) ?_
  intro p e s m below meth c D cs lo S Q ls B hr hlk hin htb
  intro h hl hw
  replace hl : lv_has ls 6 [(0, va_rf p0), (1, .int x1), (2, .int x2), (3, .int x3), (4, va_rf p4)] := by simpa [lv_args, rf_cat, cat_i, cat_r, cat_n, cat_j, cat_f, cat_d] using hl
  refine q_aload B.1.1 B.1.2.1 dL_put_0 (lv_at hl 4 rfl) ?_
  refine lv_iconst (v := (0 : Int32)) B.1.1 B.1.2.1 dL_put_2 (by decide) ?_
  refine q_aload_n B.1.1 B.1.2.1 dL_put_3 rfl (lv_at hl 0 rfl) ?_
  refine lv_iload_n B.1.1 B.1.2.1 dL_put_4 rfl (lv_at hl 1 rfl) ?_
  refine lv_iload_n B.1.1 B.1.2.1 dL_put_5 rfl (lv_at hl 2 rfl) ?_
  refine lv_iload_n B.1.1 B.1.2.1 dL_put_6 rfl (lv_at hl 3 rfl) ?_
  obtain ⟨q1, hn, hw⟩ := hw
  subst hn
  replace hl : lv_has ls 6 [(0, .ref q1), (1, .int x1), (2, .int x2), (3, .int x3), (4, va_rf p4)] := hl
  obtain ⟨hok, hw⟩ := hw
  refine q_callxI B h (met_X4_put l hst q1 x1 x2 x3) (CB B 3 kC_X4_put kI_RX4 kM_RL_47 hd_X4_put ⟨Nat.le_of_ble_eq_true rfl, Nat.le_of_ble_eq_true rfl⟩) kO_X4_put kV_X4_put (ci := 4) rfl (by decide) hok.1 hok.2 (rest := [.int (0 : Int32), va_rf p4]) rfl rfl hl.1 (by simp [rf_cat, cat_i, cat_r, cat_n, cat_j, cat_f, cat_d]) dL_put_7 ⟨Nat.le_of_ble_eq_true rfl, Nat.le_of_ble_eq_true rfl⟩ hw (fun E ce q9 S2 H locs hw9 h9 hce hcv hcl => ?_) (fun r1 S1 H locs hw9 h9 => ?_)
  · replace hw := hw9
    clear hw9
    replace h := h9
    clear h9
    rcases hw with ⟨rfl, hw⟩ | ⟨rfl, hw⟩
    · refine q_catch1 B htb (by decide) (by decide) kL_RL_20 kK_java_lang_IndexOutOfBoundsException hce hcv hcl ?_
      refine lv_astore (i := 5) (lv' := [(5, .ref q9), (0, .ref q1), (1, .int x1), (2, .int x2), (3, .int x3), (4, va_rf p4)]) B.1.1 B.1.2.1 dL_put_15 hl (by decide) (by simp [List.filter, rf_cat, cat_i, cat_r, cat_n]) (fun ls hl9 => ?_)
      replace hl := hl9
      clear hl9
      refine lv_iconst (v := (1 : Int32)) B.1.1 B.1.2.1 dL_put_17 (by decide) ?_
      exact q_iret B hr hlk h hw dL_put_18 (Nat.le_of_ble_eq_true rfl) (Nat.le_of_ble_eq_true rfl)
    · refine q_catch2 B htb (by decide) (by decide) (by decide) kL_RL_20 (by decide) kL_RL_15 kK_java_lang_IllegalStateException hce hcv hcl ?_
      refine lv_astore (i := 5) (lv' := [(5, .ref q9), (0, .ref q1), (1, .int x1), (2, .int x2), (3, .int x3), (4, va_rf p4)]) B.1.1 B.1.2.1 dL_put_19 hl (by decide) (by simp [List.filter, rf_cat, cat_i, cat_r, cat_n]) (fun ls hl9 => ?_)
      replace hl := hl9
      clear hl9
      refine lv_iconst (v := (2 : Int32)) B.1.1 B.1.2.1 dL_put_21 (by decide) ?_
      exact q_iret B hr hlk h hw dL_put_22 (Nat.le_of_ble_eq_true rfl) (Nat.le_of_ble_eq_true rfl)
  · replace hw := hw9
    clear hw9
    replace h := h9
    clear h9
    refine lv_i2l B.1.1 B.1.2.1 dL_put_10 rfl ?_
    obtain ⟨q2, hn, hw⟩ := hw
    subst hn
    replace hl : lv_has ls 6 [(0, .ref q1), (1, .int x1), (2, .int x2), (3, .int x3), (4, .ref q2)] := hl
    obtain ⟨hok, hin9, hw⟩ := hw
    refine q_last B h dL_put_11 hok.1 hok.2 hin9 (fun H locs h9 => ?_)
    obtain ⟨S3, hS3, hh⟩ : ∃ z, z = sJ S1 q2 (0 : Int32).toNatClampNeg (r1).toInt64 ∧ Hx D cs lo s z H _ := ⟨_, rfl, h9⟩
    clear h9
    replace h := hh
    clear hh
    replace hw := hw S3 hS3
    refine lv_goto (tgt := 23) B.1.1 B.1.2.1 dL_put_12 (by decide) ?_
    refine lv_iconst (v := (0 : Int32)) B.1.1 B.1.2.1 dL_put_23 (by decide) ?_
    exact q_iret B hr hlk h hw dL_put_24 (Nat.le_of_ble_eq_true rfl) (Nat.le_of_ble_eq_true rfl)
set_option maxHeartbeats 4000000 in
set_option maxRecDepth 100000 in
theorem met_L_pass (l : Launch) (hst : l.stackTraces = false) (p0 : Option Nat) (x1 : Int32) (p2 : Option Nat) : HI l yL_pass cL_pass 4 (some .int) [(0, 9, 12, 13)] 7 167 1 6 [va_rf p0, .int x1, va_rf p2] (wL_pass p0 x1 p2) := by
  refine HI.of (by decide) (by simp [lg_sl, rf_cat, cat_i, cat_r, cat_n, cat_j, cat_f, cat_d]) ?_
  intro p e s m below meth c D cs lo S Q ls B hr hlk hin htb
  intro h hl hw
  replace hl : lv_has ls 4 [(0, va_rf p0), (1, .int x1), (2, va_rf p2)] := by simpa [lv_args, rf_cat, cat_i, cat_r, cat_n, cat_j, cat_f, cat_d] using hl
  refine q_aload_n B.1.1 B.1.2.1 dL_pass_0 rfl (lv_at hl 2 rfl) ?_
  refine lv_iconst (v := (0 : Int32)) B.1.1 B.1.2.1 dL_pass_1 (by decide) ?_
  refine q_aload_n B.1.1 B.1.2.1 dL_pass_2 rfl (lv_at hl 0 rfl) ?_
  refine lv_iload_n B.1.1 B.1.2.1 dL_pass_3 rfl (lv_at hl 1 rfl) ?_
  obtain ⟨q1, hn, hw⟩ := hw
  subst hn
  replace hl : lv_has ls 4 [(0, .ref q1), (1, .int x1), (2, va_rf p2)] := hl
  obtain ⟨hok, hw⟩ := hw
  refine q_callxI B h (met_X4_pass l hst q1 x1) (CB B 1 kC_X4_pass kI_RX4 kM_RL_50 hd_X4_pass ⟨Nat.le_of_ble_eq_true rfl, Nat.le_of_ble_eq_true rfl⟩) kO_X4_pass kV_X4_pass (ci := 4) rfl (by decide) hok.1 hok.2 (rest := [.int (0 : Int32), va_rf p2]) rfl rfl hl.1 (by simp [rf_cat, cat_i, cat_r, cat_n, cat_j, cat_f, cat_d]) dL_pass_4 ⟨Nat.le_of_ble_eq_true rfl, Nat.le_of_ble_eq_true rfl⟩ hw (fun E ce q9 S2 H locs hw9 h9 hce hcv hcl => ?_) (fun r1 S1 H locs hw9 h9 => ?_)
  · replace hw := hw9
    clear hw9
    replace h := h9
    clear h9
    obtain ⟨rfl, hw⟩ := hw
    · refine q_catch1 B htb (by decide) (by decide) kL_RL_13 kK_java_lang_IllegalArgumentException hce hcv hcl ?_
      refine lv_astore_n (i := 3) (lv' := [(3, .ref q9), (0, .ref q1), (1, .int x1), (2, va_rf p2)]) B.1.1 B.1.2.1 dL_pass_12 rfl hl (by decide) (by simp [List.filter, rf_cat, cat_i, cat_r, cat_n]) (fun ls hl9 => ?_)
      replace hl := hl9
      clear hl9
      refine lv_iconst (v := (1 : Int32)) B.1.1 B.1.2.1 dL_pass_13 (by decide) ?_
      exact q_iret B hr hlk h hw dL_pass_14 (Nat.le_of_ble_eq_true rfl) (Nat.le_of_ble_eq_true rfl)
  · replace hw := hw9
    clear hw9
    replace h := h9
    clear h9
    refine lv_i2l B.1.1 B.1.2.1 dL_pass_7 rfl ?_
    obtain ⟨q2, hn, hw⟩ := hw
    subst hn
    replace hl : lv_has ls 4 [(0, .ref q1), (1, .int x1), (2, .ref q2)] := hl
    obtain ⟨hok, hin9, hw⟩ := hw
    refine q_last B h dL_pass_8 hok.1 hok.2 hin9 (fun H locs h9 => ?_)
    obtain ⟨S3, hS3, hh⟩ : ∃ z, z = sJ S1 q2 (0 : Int32).toNatClampNeg (r1).toInt64 ∧ Hx D cs lo s z H _ := ⟨_, rfl, h9⟩
    clear h9
    replace h := hh
    clear hh
    replace hw := hw S3 hS3
    refine lv_goto (tgt := 15) B.1.1 B.1.2.1 dL_pass_9 (by decide) ?_
    refine lv_iconst (v := (0 : Int32)) B.1.1 B.1.2.1 dL_pass_15 (by decide) ?_
    exact q_iret B hr hlk h hw dL_pass_16 (Nat.le_of_ble_eq_true rfl) (Nat.le_of_ble_eq_true rfl)
set_option maxHeartbeats 4000000 in
set_option maxRecDepth 100000 in
theorem met_L_prints (l : Launch) (hst : l.stackTraces = false) (p0 : Option Nat) (x1 : Int32) (p2 : Option Nat) : HI l yL_prints cL_prints 4 (some .int) [(0, 9, 12, 20)] 7 105 1 6 [va_rf p0, .int x1, va_rf p2] (wL_prints p0 x1 p2) := by
  refine HI.of (by decide) (by simp [lg_sl, rf_cat, cat_i, cat_r, cat_n, cat_j, cat_f, cat_d]) ?_
  intro p e s m below meth c D cs lo S Q ls B hr hlk hin htb
  intro h hl hw
  replace hl : lv_has ls 4 [(0, va_rf p0), (1, .int x1), (2, va_rf p2)] := by simpa [lv_args, rf_cat, cat_i, cat_r, cat_n, cat_j, cat_f, cat_d] using hl
  refine q_aload_n B.1.1 B.1.2.1 dL_prints_0 rfl (lv_at hl 2 rfl) ?_
  refine lv_iconst (v := (0 : Int32)) B.1.1 B.1.2.1 dL_prints_1 (by decide) ?_
  refine q_aload_n B.1.1 B.1.2.1 dL_prints_2 rfl (lv_at hl 0 rfl) ?_
  refine lv_iload_n B.1.1 B.1.2.1 dL_prints_3 rfl (lv_at hl 1 rfl) ?_
  obtain ⟨q1, hn, hw⟩ := hw
  subst hn
  replace hl : lv_has ls 4 [(0, .ref q1), (1, .int x1), (2, va_rf p2)] := hl
  obtain ⟨hok, hw⟩ := hw
  refine q_callxI B h (met_X4_prints l hst q1 x1) (CB B 1 kC_X4_prints kI_RX4 kM_RL_53 hd_X4_prints ⟨Nat.le_of_ble_eq_true rfl, Nat.le_of_ble_eq_true rfl⟩) kO_X4_prints kV_X4_prints (ci := 4) rfl (by decide) hok.1 hok.2 (rest := [.int (0 : Int32), va_rf p2]) rfl rfl hl.1 (by simp [rf_cat, cat_i, cat_r, cat_n, cat_j, cat_f, cat_d]) dL_prints_4 ⟨Nat.le_of_ble_eq_true rfl, Nat.le_of_ble_eq_true rfl⟩ hw (fun E ce q9 S2 H locs hw9 h9 hce hcv hcl => ?_) (fun r1 S1 H locs hw9 h9 => ?_)
  · replace hw := hw9
    clear hw9
    replace h := h9
    clear h9
    obtain ⟨rfl, hw⟩ := hw
    · refine q_catch1 B htb (by decide) (by decide) kL_RL_20 kK_java_lang_IndexOutOfBoundsException hce hcv hcl ?_
      refine lv_astore_n (i := 3) (lv' := [(3, .ref q9), (0, .ref q1), (1, .int x1), (2, va_rf p2)]) B.1.1 B.1.2.1 dL_prints_12 rfl hl (by decide) (by simp [List.filter, rf_cat, cat_i, cat_r, cat_n]) (fun ls hl9 => ?_)
      replace hl := hl9
      clear hl9
      refine lv_iconst (v := (1 : Int32)) B.1.1 B.1.2.1 dL_prints_13 (by decide) ?_
      exact q_iret B hr hlk h hw dL_prints_14 (Nat.le_of_ble_eq_true rfl) (Nat.le_of_ble_eq_true rfl)
  · replace hw := hw9
    clear hw9
    replace h := h9
    clear h9
    refine lv_i2l B.1.1 B.1.2.1 dL_prints_7 rfl ?_
    obtain ⟨q2, hn, hw⟩ := hw
    subst hn
    replace hl : lv_has ls 4 [(0, .ref q1), (1, .int x1), (2, .ref q2)] := hl
    obtain ⟨hok, hin9, hw⟩ := hw
    refine q_last B h dL_prints_8 hok.1 hok.2 hin9 (fun H locs h9 => ?_)
    obtain ⟨S3, hS3, hh⟩ : ∃ z, z = sJ S1 q2 (0 : Int32).toNatClampNeg (r1).toInt64 ∧ Hx D cs lo s z H _ := ⟨_, rfl, h9⟩
    clear h9
    replace h := hh
    clear hh
    replace hw := hw S3 hS3
    refine lv_goto (tgt := 15) B.1.1 B.1.2.1 dL_prints_9 (by decide) ?_
    refine lv_iconst (v := (0 : Int32)) B.1.1 B.1.2.1 dL_prints_15 (by decide) ?_
    exact q_iret B hr hlk h hw dL_prints_16 (Nat.le_of_ble_eq_true rfl) (Nat.le_of_ble_eq_true rfl)
set_option maxHeartbeats 4000000 in
set_option maxRecDepth 100000 in
theorem met_L_dry (l : Launch) (hst : l.stackTraces = false) (p0 : Option Nat) (x1 : Int32) (x2 : Int32) (p3 : Option Nat) : HI l yL_dry cL_dry 5 (some .int) [(0, 10, 13, 20)] 7 105 1 6 [va_rf p0, .int x1, .int x2, va_rf p3] (wL_dry p0 x1 x2 p3) := by
  refine HI.of (by decide) (by simp [lg_sl, rf_cat, cat_i, cat_r, cat_n, cat_j, cat_f, cat_d]) ?_
  intro p e s m below meth c D cs lo S Q ls B hr hlk hin htb
  intro h hl hw
  replace hl : lv_has ls 5 [(0, va_rf p0), (1, .int x1), (2, .int x2), (3, va_rf p3)] := by simpa [lv_args, rf_cat, cat_i, cat_r, cat_n, cat_j, cat_f, cat_d] using hl
  refine q_aload_n B.1.1 B.1.2.1 dL_dry_0 rfl (lv_at hl 3 rfl) ?_
  refine lv_iconst (v := (0 : Int32)) B.1.1 B.1.2.1 dL_dry_1 (by decide) ?_
  refine q_aload_n B.1.1 B.1.2.1 dL_dry_2 rfl (lv_at hl 0 rfl) ?_
  refine lv_iload_n B.1.1 B.1.2.1 dL_dry_3 rfl (lv_at hl 1 rfl) ?_
  refine lv_iload_n B.1.1 B.1.2.1 dL_dry_4 rfl (lv_at hl 2 rfl) ?_
  obtain ⟨q1, hn, hw⟩ := hw
  subst hn
  replace hl : lv_has ls 5 [(0, .ref q1), (1, .int x1), (2, .int x2), (3, va_rf p3)] := hl
  obtain ⟨hok, hw⟩ := hw
  refine q_callxI B h (met_X4_dry l hst q1 x1 x2) (CB B 2 kC_X4_dry kI_RX4 kM_RL_56 hd_X4_dry ⟨Nat.le_of_ble_eq_true rfl, Nat.le_of_ble_eq_true rfl⟩) kO_X4_dry kV_X4_dry (ci := 4) rfl (by decide) hok.1 hok.2 (rest := [.int (0 : Int32), va_rf p3]) rfl rfl hl.1 (by simp [rf_cat, cat_i, cat_r, cat_n, cat_j, cat_f, cat_d]) dL_dry_5 ⟨Nat.le_of_ble_eq_true rfl, Nat.le_of_ble_eq_true rfl⟩ hw (fun E ce q9 S2 H locs hw9 h9 hce hcv hcl => ?_) (fun r1 S1 H locs hw9 h9 => ?_)
  · replace hw := hw9
    clear hw9
    replace h := h9
    clear h9
    obtain ⟨rfl, hw⟩ := hw
    · refine q_catch1 B htb (by decide) (by decide) kL_RL_20 kK_java_lang_IndexOutOfBoundsException hce hcv hcl ?_
      refine lv_astore (i := 4) (lv' := [(4, .ref q9), (0, .ref q1), (1, .int x1), (2, .int x2), (3, va_rf p3)]) B.1.1 B.1.2.1 dL_dry_13 hl (by decide) (by simp [List.filter, rf_cat, cat_i, cat_r, cat_n]) (fun ls hl9 => ?_)
      replace hl := hl9
      clear hl9
      refine lv_iconst (v := (1 : Int32)) B.1.1 B.1.2.1 dL_dry_15 (by decide) ?_
      exact q_iret B hr hlk h hw dL_dry_16 (Nat.le_of_ble_eq_true rfl) (Nat.le_of_ble_eq_true rfl)
  · replace hw := hw9
    clear hw9
    replace h := h9
    clear h9
    refine lv_i2l B.1.1 B.1.2.1 dL_dry_8 rfl ?_
    obtain ⟨q2, hn, hw⟩ := hw
    subst hn
    replace hl : lv_has ls 5 [(0, .ref q1), (1, .int x1), (2, .int x2), (3, .ref q2)] := hl
    obtain ⟨hok, hin9, hw⟩ := hw
    refine q_last B h dL_dry_9 hok.1 hok.2 hin9 (fun H locs h9 => ?_)
    obtain ⟨S3, hS3, hh⟩ : ∃ z, z = sJ S1 q2 (0 : Int32).toNatClampNeg (r1).toInt64 ∧ Hx D cs lo s z H _ := ⟨_, rfl, h9⟩
    clear h9
    replace h := hh
    clear hh
    replace hw := hw S3 hS3
    refine lv_goto (tgt := 17) B.1.1 B.1.2.1 dL_dry_10 (by decide) ?_
    refine lv_iconst (v := (0 : Int32)) B.1.1 B.1.2.1 dL_dry_17 (by decide) ?_
    exact q_iret B hr hlk h hw dL_dry_18 (Nat.le_of_ble_eq_true rfl) (Nat.le_of_ble_eq_true rfl)
set_option maxHeartbeats 4000000 in
set_option maxRecDepth 100000 in
theorem met_L_ink (l : Launch) (hst : l.stackTraces = false) (p0 : Option Nat) (x1 : Int32) (x2 : Int32) (x3 : Int32) (p4 : Option Nat) : HI l yL_ink cL_ink 6 (some .int) [(0, 12, 15, 20)] 7 106 1 6 [va_rf p0, .int x1, .int x2, .int x3, va_rf p4] (wL_ink p0 x1 x2 x3 p4) := by
  refine HI.of (by decide) (by simp [lg_sl, rf_cat, cat_i, cat_r, cat_n, cat_j, cat_f, cat_d]) ?_
  intro p e s m below meth c D cs lo S Q ls B hr hlk hin htb
  intro h hl hw
  replace hl : lv_has ls 6 [(0, va_rf p0), (1, .int x1), (2, .int x2), (3, .int x3), (4, va_rf p4)] := by simpa [lv_args, rf_cat, cat_i, cat_r, cat_n, cat_j, cat_f, cat_d] using hl
  refine q_aload B.1.1 B.1.2.1 dL_ink_0 (lv_at hl 4 rfl) ?_
  refine lv_iconst (v := (0 : Int32)) B.1.1 B.1.2.1 dL_ink_2 (by decide) ?_
  refine q_aload_n B.1.1 B.1.2.1 dL_ink_3 rfl (lv_at hl 0 rfl) ?_
  refine lv_iload_n B.1.1 B.1.2.1 dL_ink_4 rfl (lv_at hl 1 rfl) ?_
  refine lv_iload_n B.1.1 B.1.2.1 dL_ink_5 rfl (lv_at hl 2 rfl) ?_
  refine lv_iload_n B.1.1 B.1.2.1 dL_ink_6 rfl (lv_at hl 3 rfl) ?_
  obtain ⟨q1, hn, hw⟩ := hw
  subst hn
  replace hl : lv_has ls 6 [(0, .ref q1), (1, .int x1), (2, .int x2), (3, .int x3), (4, va_rf p4)] := hl
  obtain ⟨hok, hw⟩ := hw
  refine q_callxI B h (met_X4_ink l hst q1 x1 x2 x3) (CB B 3 kC_X4_ink kI_RX4 kM_RL_59 hd_X4_ink ⟨Nat.le_of_ble_eq_true rfl, Nat.le_of_ble_eq_true rfl⟩) kO_X4_ink kV_X4_ink (ci := 4) rfl (by decide) hok.1 hok.2 (rest := [.int (0 : Int32), va_rf p4]) rfl rfl hl.1 (by simp [rf_cat, cat_i, cat_r, cat_n, cat_j, cat_f, cat_d]) dL_ink_7 ⟨Nat.le_of_ble_eq_true rfl, Nat.le_of_ble_eq_true rfl⟩ hw (fun E ce q9 S2 H locs hw9 h9 hce hcv hcl => ?_) (fun r1 S1 H locs hw9 h9 => ?_)
  · replace hw := hw9
    clear hw9
    replace h := h9
    clear h9
    obtain ⟨rfl, hw⟩ := hw
    · refine q_catch1 B htb (by decide) (by decide) kL_RL_20 kK_java_lang_IndexOutOfBoundsException hce hcv hcl ?_
      refine lv_astore (i := 5) (lv' := [(5, .ref q9), (0, .ref q1), (1, .int x1), (2, .int x2), (3, .int x3), (4, va_rf p4)]) B.1.1 B.1.2.1 dL_ink_15 hl (by decide) (by simp [List.filter, rf_cat, cat_i, cat_r, cat_n]) (fun ls hl9 => ?_)
      replace hl := hl9
      clear hl9
      refine lv_iconst (v := (1 : Int32)) B.1.1 B.1.2.1 dL_ink_17 (by decide) ?_
      exact q_iret B hr hlk h hw dL_ink_18 (Nat.le_of_ble_eq_true rfl) (Nat.le_of_ble_eq_true rfl)
  · replace hw := hw9
    clear hw9
    replace h := h9
    clear h9
    refine lv_i2l B.1.1 B.1.2.1 dL_ink_10 rfl ?_
    obtain ⟨q2, hn, hw⟩ := hw
    subst hn
    replace hl : lv_has ls 6 [(0, .ref q1), (1, .int x1), (2, .int x2), (3, .int x3), (4, .ref q2)] := hl
    obtain ⟨hok, hin9, hw⟩ := hw
    refine q_last B h dL_ink_11 hok.1 hok.2 hin9 (fun H locs h9 => ?_)
    obtain ⟨S3, hS3, hh⟩ : ∃ z, z = sJ S1 q2 (0 : Int32).toNatClampNeg (r1).toInt64 ∧ Hx D cs lo s z H _ := ⟨_, rfl, h9⟩
    clear h9
    replace h := hh
    clear hh
    replace hw := hw S3 hS3
    refine lv_goto (tgt := 19) B.1.1 B.1.2.1 dL_ink_12 (by decide) ?_
    refine lv_iconst (v := (0 : Int32)) B.1.1 B.1.2.1 dL_ink_19 (by decide) ?_
    exact q_iret B hr hlk h hw dL_ink_20 (Nat.le_of_ble_eq_true rfl) (Nat.le_of_ble_eq_true rfl)
set_option maxHeartbeats 4000000 in
set_option maxRecDepth 100000 in
theorem met_L_spilt (l : Launch) (hst : l.stackTraces = false) (p0 : Option Nat) (x1 : Int32) (p2 : Option Nat) : HI l yL_spilt cL_spilt 4 (some .int) [(0, 9, 12, 20)] 7 104 1 6 [va_rf p0, .int x1, va_rf p2] (wL_spilt p0 x1 p2) := by
  refine HI.of (by decide) (by simp [lg_sl, rf_cat, cat_i, cat_r, cat_n, cat_j, cat_f, cat_d]) ?_
  intro p e s m below meth c D cs lo S Q ls B hr hlk hin htb
  intro h hl hw
  replace hl : lv_has ls 4 [(0, va_rf p0), (1, .int x1), (2, va_rf p2)] := by simpa [lv_args, rf_cat, cat_i, cat_r, cat_n, cat_j, cat_f, cat_d] using hl
  refine q_aload_n B.1.1 B.1.2.1 dL_spilt_0 rfl (lv_at hl 2 rfl) ?_
  refine lv_iconst (v := (0 : Int32)) B.1.1 B.1.2.1 dL_spilt_1 (by decide) ?_
  refine q_aload_n B.1.1 B.1.2.1 dL_spilt_2 rfl (lv_at hl 0 rfl) ?_
  refine lv_iload_n B.1.1 B.1.2.1 dL_spilt_3 rfl (lv_at hl 1 rfl) ?_
  obtain ⟨q1, hn, hw⟩ := hw
  subst hn
  replace hl : lv_has ls 4 [(0, .ref q1), (1, .int x1), (2, va_rf p2)] := hl
  obtain ⟨hok, hw⟩ := hw
  refine q_callxI B h (met_X4_spilt l hst q1 x1) (CB B 1 kC_X4_spilt kI_RX4 kM_RL_62 hd_X4_spilt ⟨Nat.le_of_ble_eq_true rfl, Nat.le_of_ble_eq_true rfl⟩) kO_X4_spilt kV_X4_spilt (ci := 4) rfl (by decide) hok.1 hok.2 (rest := [.int (0 : Int32), va_rf p2]) rfl rfl hl.1 (by simp [rf_cat, cat_i, cat_r, cat_n, cat_j, cat_f, cat_d]) dL_spilt_4 ⟨Nat.le_of_ble_eq_true rfl, Nat.le_of_ble_eq_true rfl⟩ hw (fun E ce q9 S2 H locs hw9 h9 hce hcv hcl => ?_) (fun r1 S1 H locs hw9 h9 => ?_)
  · replace hw := hw9
    clear hw9
    replace h := h9
    clear h9
    obtain ⟨rfl, hw⟩ := hw
    · refine q_catch1 B htb (by decide) (by decide) kL_RL_20 kK_java_lang_IndexOutOfBoundsException hce hcv hcl ?_
      refine lv_astore_n (i := 3) (lv' := [(3, .ref q9), (0, .ref q1), (1, .int x1), (2, va_rf p2)]) B.1.1 B.1.2.1 dL_spilt_12 rfl hl (by decide) (by simp [List.filter, rf_cat, cat_i, cat_r, cat_n]) (fun ls hl9 => ?_)
      replace hl := hl9
      clear hl9
      refine lv_iconst (v := (1 : Int32)) B.1.1 B.1.2.1 dL_spilt_13 (by decide) ?_
      exact q_iret B hr hlk h hw dL_spilt_14 (Nat.le_of_ble_eq_true rfl) (Nat.le_of_ble_eq_true rfl)
  · replace hw := hw9
    clear hw9
    replace h := h9
    clear h9
    refine lv_i2l B.1.1 B.1.2.1 dL_spilt_7 rfl ?_
    obtain ⟨q2, hn, hw⟩ := hw
    subst hn
    replace hl : lv_has ls 4 [(0, .ref q1), (1, .int x1), (2, .ref q2)] := hl
    obtain ⟨hok, hin9, hw⟩ := hw
    refine q_last B h dL_spilt_8 hok.1 hok.2 hin9 (fun H locs h9 => ?_)
    obtain ⟨S3, hS3, hh⟩ : ∃ z, z = sJ S1 q2 (0 : Int32).toNatClampNeg (r1).toInt64 ∧ Hx D cs lo s z H _ := ⟨_, rfl, h9⟩
    clear h9
    replace h := hh
    clear hh
    replace hw := hw S3 hS3
    refine lv_goto (tgt := 15) B.1.1 B.1.2.1 dL_spilt_9 (by decide) ?_
    refine lv_iconst (v := (0 : Int32)) B.1.1 B.1.2.1 dL_spilt_15 (by decide) ?_
    exact q_iret B hr hlk h hw dL_spilt_16 (Nat.le_of_ble_eq_true rfl) (Nat.le_of_ble_eq_true rfl)
set_option maxHeartbeats 4000000 in
set_option maxRecDepth 100000 in
theorem met_L_used (l : Launch) (hst : l.stackTraces = false) (p0 : Option Nat) (x1 : Int32) (x2 : Int32) (p3 : Option Nat) : HI l yL_used cL_used 5 (some .int) [(0, 10, 13, 20)] 7 105 1 6 [va_rf p0, .int x1, .int x2, va_rf p3] (wL_used p0 x1 x2 p3) := by
  refine HI.of (by decide) (by simp [lg_sl, rf_cat, cat_i, cat_r, cat_n, cat_j, cat_f, cat_d]) ?_
  intro p e s m below meth c D cs lo S Q ls B hr hlk hin htb
  intro h hl hw
  replace hl : lv_has ls 5 [(0, va_rf p0), (1, .int x1), (2, .int x2), (3, va_rf p3)] := by simpa [lv_args, rf_cat, cat_i, cat_r, cat_n, cat_j, cat_f, cat_d] using hl
  refine q_aload_n B.1.1 B.1.2.1 dL_used_0 rfl (lv_at hl 3 rfl) ?_
  refine lv_iconst (v := (0 : Int32)) B.1.1 B.1.2.1 dL_used_1 (by decide) ?_
  refine q_aload_n B.1.1 B.1.2.1 dL_used_2 rfl (lv_at hl 0 rfl) ?_
  refine lv_iload_n B.1.1 B.1.2.1 dL_used_3 rfl (lv_at hl 1 rfl) ?_
  refine lv_iload_n B.1.1 B.1.2.1 dL_used_4 rfl (lv_at hl 2 rfl) ?_
  obtain ⟨q1, hn, hw⟩ := hw
  subst hn
  replace hl : lv_has ls 5 [(0, .ref q1), (1, .int x1), (2, .int x2), (3, va_rf p3)] := hl
  obtain ⟨hok, hw⟩ := hw
  refine q_callxI B h (met_X4_used l hst q1 x1 x2) (CB B 2 kC_X4_used kI_RX4 kM_RL_65 hd_X4_used ⟨Nat.le_of_ble_eq_true rfl, Nat.le_of_ble_eq_true rfl⟩) kO_X4_used kV_X4_used (ci := 4) rfl (by decide) hok.1 hok.2 (rest := [.int (0 : Int32), va_rf p3]) rfl rfl hl.1 (by simp [rf_cat, cat_i, cat_r, cat_n, cat_j, cat_f, cat_d]) dL_used_5 ⟨Nat.le_of_ble_eq_true rfl, Nat.le_of_ble_eq_true rfl⟩ hw (fun E ce q9 S2 H locs hw9 h9 hce hcv hcl => ?_) (fun r1 S1 H locs hw9 h9 => ?_)
  · replace hw := hw9
    clear hw9
    replace h := h9
    clear h9
    obtain ⟨rfl, hw⟩ := hw
    · refine q_catch1 B htb (by decide) (by decide) kL_RL_20 kK_java_lang_IndexOutOfBoundsException hce hcv hcl ?_
      refine lv_astore (i := 4) (lv' := [(4, .ref q9), (0, .ref q1), (1, .int x1), (2, .int x2), (3, va_rf p3)]) B.1.1 B.1.2.1 dL_used_13 hl (by decide) (by simp [List.filter, rf_cat, cat_i, cat_r, cat_n]) (fun ls hl9 => ?_)
      replace hl := hl9
      clear hl9
      refine lv_iconst (v := (1 : Int32)) B.1.1 B.1.2.1 dL_used_15 (by decide) ?_
      exact q_iret B hr hlk h hw dL_used_16 (Nat.le_of_ble_eq_true rfl) (Nat.le_of_ble_eq_true rfl)
  · replace hw := hw9
    clear hw9
    replace h := h9
    clear h9
    refine lv_i2l B.1.1 B.1.2.1 dL_used_8 rfl ?_
    obtain ⟨q2, hn, hw⟩ := hw
    subst hn
    replace hl : lv_has ls 5 [(0, .ref q1), (1, .int x1), (2, .int x2), (3, .ref q2)] := hl
    obtain ⟨hok, hin9, hw⟩ := hw
    refine q_last B h dL_used_9 hok.1 hok.2 hin9 (fun H locs h9 => ?_)
    obtain ⟨S3, hS3, hh⟩ : ∃ z, z = sJ S1 q2 (0 : Int32).toNatClampNeg (r1).toInt64 ∧ Hx D cs lo s z H _ := ⟨_, rfl, h9⟩
    clear h9
    replace h := hh
    clear hh
    replace hw := hw S3 hS3
    refine lv_goto (tgt := 17) B.1.1 B.1.2.1 dL_used_10 (by decide) ?_
    refine lv_iconst (v := (0 : Int32)) B.1.1 B.1.2.1 dL_used_17 (by decide) ?_
    exact q_iret B hr hlk h hw dL_used_18 (Nat.le_of_ble_eq_true rfl) (Nat.le_of_ble_eq_true rfl)
set_option maxHeartbeats 4000000 in
set_option maxRecDepth 100000 in
theorem met_L_seam (l : Launch) (hst : l.stackTraces = false) (p0 : Option Nat) (x1 : Int32) (x2 : Int32) (p3 : Option Nat) : HI l yL_seam cL_seam 5 (some .int) [(0, 10, 13, 20), (0, 10, 17, 15)] 7 141 1 6 [va_rf p0, .int x1, .int x2, va_rf p3] (wL_seam p0 x1 x2 p3) := by
  refine HI.of (by decide) (by simp [lg_sl, rf_cat, cat_i, cat_r, cat_n, cat_j, cat_f, cat_d]) ?_
  intro p e s m below meth c D cs lo S Q ls B hr hlk hin htb
  intro h hl hw
  replace hl : lv_has ls 5 [(0, va_rf p0), (1, .int x1), (2, .int x2), (3, va_rf p3)] := by simpa [lv_args, rf_cat, cat_i, cat_r, cat_n, cat_j, cat_f, cat_d] using hl
  refine q_aload_n B.1.1 B.1.2.1 dL_seam_0 rfl (lv_at hl 3 rfl) ?_
  refine lv_iconst (v := (0 : Int32)) B.1.1 B.1.2.1 dL_seam_1 (by decide) ?_
  refine q_aload_n B.1.1 B.1.2.1 dL_seam_2 rfl (lv_at hl 0 rfl) ?_
  refine lv_iload_n B.1.1 B.1.2.1 dL_seam_3 rfl (lv_at hl 1 rfl) ?_
  refine lv_iload_n B.1.1 B.1.2.1 dL_seam_4 rfl (lv_at hl 2 rfl) ?_
  obtain ⟨q1, hn, hw⟩ := hw
  subst hn
  replace hl : lv_has ls 5 [(0, .ref q1), (1, .int x1), (2, .int x2), (3, va_rf p3)] := hl
  obtain ⟨hok, hw⟩ := hw
  refine q_callxI B h (met_X4_seam l hst q1 x1 x2) (CB B 2 kC_X4_seam kI_RX4 kM_RL_69 hd_X4_seam ⟨Nat.le_of_ble_eq_true rfl, Nat.le_of_ble_eq_true rfl⟩) kO_X4_seam kV_X4_seam (ci := 4) rfl (by decide) hok.1 hok.2 (rest := [.int (0 : Int32), va_rf p3]) rfl rfl hl.1 (by simp [rf_cat, cat_i, cat_r, cat_n, cat_j, cat_f, cat_d]) dL_seam_5 ⟨Nat.le_of_ble_eq_true rfl, Nat.le_of_ble_eq_true rfl⟩ hw (fun E ce q9 S2 H locs hw9 h9 hce hcv hcl => ?_) (fun r1 S1 H locs hw9 h9 => ?_)
  · replace hw := hw9
    clear hw9
    replace h := h9
    clear h9
    rcases hw with ⟨rfl, hw⟩ | ⟨rfl, hw⟩
    · refine q_catch1 B htb (by decide) (by decide) kL_RL_20 kK_java_lang_IndexOutOfBoundsException hce hcv hcl ?_
      refine lv_astore (i := 4) (lv' := [(4, .ref q9), (0, .ref q1), (1, .int x1), (2, .int x2), (3, va_rf p3)]) B.1.1 B.1.2.1 dL_seam_13 hl (by decide) (by simp [List.filter, rf_cat, cat_i, cat_r, cat_n]) (fun ls hl9 => ?_)
      replace hl := hl9
      clear hl9
      refine lv_iconst (v := (1 : Int32)) B.1.1 B.1.2.1 dL_seam_15 (by decide) ?_
      exact q_iret B hr hlk h hw dL_seam_16 (Nat.le_of_ble_eq_true rfl) (Nat.le_of_ble_eq_true rfl)
    · refine q_catch2 B htb (by decide) (by decide) (by decide) kL_RL_20 (by decide) kL_RL_15 kK_java_lang_IllegalStateException hce hcv hcl ?_
      refine lv_astore (i := 4) (lv' := [(4, .ref q9), (0, .ref q1), (1, .int x1), (2, .int x2), (3, va_rf p3)]) B.1.1 B.1.2.1 dL_seam_17 hl (by decide) (by simp [List.filter, rf_cat, cat_i, cat_r, cat_n]) (fun ls hl9 => ?_)
      replace hl := hl9
      clear hl9
      refine lv_iconst (v := (2 : Int32)) B.1.1 B.1.2.1 dL_seam_19 (by decide) ?_
      exact q_iret B hr hlk h hw dL_seam_20 (Nat.le_of_ble_eq_true rfl) (Nat.le_of_ble_eq_true rfl)
  · replace hw := hw9
    clear hw9
    replace h := h9
    clear h9
    refine lv_i2l B.1.1 B.1.2.1 dL_seam_8 rfl ?_
    obtain ⟨q2, hn, hw⟩ := hw
    subst hn
    replace hl : lv_has ls 5 [(0, .ref q1), (1, .int x1), (2, .int x2), (3, .ref q2)] := hl
    obtain ⟨hok, hin9, hw⟩ := hw
    refine q_last B h dL_seam_9 hok.1 hok.2 hin9 (fun H locs h9 => ?_)
    obtain ⟨S3, hS3, hh⟩ : ∃ z, z = sJ S1 q2 (0 : Int32).toNatClampNeg (r1).toInt64 ∧ Hx D cs lo s z H _ := ⟨_, rfl, h9⟩
    clear h9
    replace h := hh
    clear hh
    replace hw := hw S3 hS3
    refine lv_goto (tgt := 21) B.1.1 B.1.2.1 dL_seam_10 (by decide) ?_
    refine lv_iconst (v := (0 : Int32)) B.1.1 B.1.2.1 dL_seam_21 (by decide) ?_
    exact q_iret B hr hlk h hw dL_seam_22 (Nat.le_of_ble_eq_true rfl) (Nat.le_of_ble_eq_true rfl)
set_option maxHeartbeats 4000000 in
set_option maxRecDepth 100000 in
theorem met_L_meanError (l : Launch) (hst : l.stackTraces = false) (p0 : Option Nat) (x1 : Int32) (p2 : Option Nat) : HI l yL_meanError cL_meanError 4 (some .int) [(0, 9, 12, 20)] 7 135 1 6 [va_rf p0, .int x1, va_rf p2] (wL_meanError p0 x1 p2) := by
  refine HI.of (by decide) (by simp [lg_sl, rf_cat, cat_i, cat_r, cat_n, cat_j, cat_f, cat_d]) ?_
  intro p e s m below meth c D cs lo S Q ls B hr hlk hin htb
  intro h hl hw
  replace hl : lv_has ls 4 [(0, va_rf p0), (1, .int x1), (2, va_rf p2)] := by simpa [lv_args, rf_cat, cat_i, cat_r, cat_n, cat_j, cat_f, cat_d] using hl
  refine q_aload_n B.1.1 B.1.2.1 dL_meanError_0 rfl (lv_at hl 2 rfl) ?_
  refine lv_iconst (v := (0 : Int32)) B.1.1 B.1.2.1 dL_meanError_1 (by decide) ?_
  refine q_aload_n B.1.1 B.1.2.1 dL_meanError_2 rfl (lv_at hl 0 rfl) ?_
  refine lv_iload_n B.1.1 B.1.2.1 dL_meanError_3 rfl (lv_at hl 1 rfl) ?_
  obtain ⟨q1, hn, hw⟩ := hw
  subst hn
  replace hl : lv_has ls 4 [(0, .ref q1), (1, .int x1), (2, va_rf p2)] := hl
  obtain ⟨hok, hw⟩ := hw
  refine q_callxF B h (met_X4_meanError l hst q1 x1) (CB B 1 kC_X4_meanError kI_RX4 kM_RL_72 hd_X4_meanError ⟨Nat.le_of_ble_eq_true rfl, Nat.le_of_ble_eq_true rfl⟩) kO_X4_meanError kV_X4_meanError (ci := 4) rfl (by decide) hok.1 hok.2 (rest := [.int (0 : Int32), va_rf p2]) rfl rfl hl.1 (by simp [rf_cat, cat_i, cat_r, cat_n, cat_j, cat_f, cat_d]) dL_meanError_4 ⟨Nat.le_of_ble_eq_true rfl, Nat.le_of_ble_eq_true rfl⟩ hw (fun E ce q9 S2 H locs hw9 h9 hce hcv hcl => ?_) (fun r1 S1 H locs hw9 h9 => ?_)
  · replace hw := hw9
    clear hw9
    replace h := h9
    clear h9
    obtain ⟨rfl, hw⟩ := hw
    · refine q_catch1 B htb (by decide) (by decide) kL_RL_20 kK_java_lang_IndexOutOfBoundsException hce hcv hcl ?_
      refine lv_astore_n (i := 3) (lv' := [(3, .ref q9), (0, .ref q1), (1, .int x1), (2, va_rf p2)]) B.1.1 B.1.2.1 dL_meanError_12 rfl hl (by decide) (by simp [List.filter, rf_cat, cat_i, cat_r, cat_n]) (fun ls hl9 => ?_)
      replace hl := hl9
      clear hl9
      refine lv_iconst (v := (1 : Int32)) B.1.1 B.1.2.1 dL_meanError_13 (by decide) ?_
      exact q_iret B hr hlk h hw dL_meanError_14 (Nat.le_of_ble_eq_true rfl) (Nat.le_of_ble_eq_true rfl)
  · replace hw := hw9
    clear hw9
    replace h := h9
    clear h9
    obtain ⟨hne, hw⟩ := hw
    refine lv_f2d B.1.1 B.1.2.1 dL_meanError_7 hne ?_
    obtain ⟨q2, hn, hw⟩ := hw
    subst hn
    replace hl : lv_has ls 4 [(0, .ref q1), (1, .int x1), (2, .ref q2)] := hl
    obtain ⟨hok, hin9, hw⟩ := hw
    refine q_dast B h dL_meanError_8 hok.1 hok.2 hin9 (fun H locs h9 => ?_)
    obtain ⟨S3, hS3, hh⟩ : ∃ z, z = sD S1 q2 (0 : Int32).toNatClampNeg (FP.f2d r1) ∧ Hx D cs lo s z H _ := ⟨_, rfl, h9⟩
    clear h9
    replace h := hh
    clear hh
    replace hw := hw S3 hS3
    refine lv_goto (tgt := 15) B.1.1 B.1.2.1 dL_meanError_9 (by decide) ?_
    refine lv_iconst (v := (0 : Int32)) B.1.1 B.1.2.1 dL_meanError_15 (by decide) ?_
    exact q_iret B hr hlk h hw dL_meanError_16 (Nat.le_of_ble_eq_true rfl) (Nat.le_of_ble_eq_true rfl)
