def wL_law_L28 (L : Nat) (xs : Nat → Int32) (c1 : Nat) (c2 : Nat) (c3 : Nat) (c4 : Nat) : Nat → Int32 → HS → (Int32 → HS → Prop) → Prop
  | 0, _, _, _ => False
  | n + 1, m5, S, K => ((((Int32.ofNat L) - (6 : Int32)) < m5 → K m5 S) ∧ (¬ ((Int32.ofNat L) - (6 : Int32)) < m5 → (vp_in m5 L ∧ (∀ xx, xx = ((xs m5.toNatClampNeg) &&& (31 : Int32)) → ((xx = (0 : Int32) → (vp_in (m5 + (1 : Int32)) L ∧ (vp_in (m5 + (2 : Int32)) L ∧ (vp_in (m5 + (3 : Int32)) L ∧ (vp_in (m5 + (4 : Int32)) L ∧ (vp_in (m5 + (5 : Int32)) L ∧ (wL_begin (some c1) (xs (m5 + (1 : Int32)).toNatClampNeg) (xs (m5 + (2 : Int32)).toNatClampNeg) (xs (m5 + (3 : Int32)).toNatClampNeg) (xs (m5 + (4 : Int32)).toNatClampNeg) (xs (m5 + (5 : Int32)).toNatClampNeg) (some c3) S (fun r1 S7 => (vp_in (m5 + (1 : Int32)) L ∧ (vp_in (m5 + (2 : Int32)) L ∧ (vp_in (m5 + (3 : Int32)) L ∧ (vp_in (m5 + (4 : Int32)) L ∧ (vp_in (m5 + (5 : Int32)) L ∧ (ok S7 c2 5 ∧ (wX5_begin c2 (xs (m5 + (1 : Int32)).toNatClampNeg) (xs (m5 + (2 : Int32)).toNatClampNeg) (xs (m5 + (3 : Int32)).toNatClampNeg) (xs (m5 + (4 : Int32)).toNatClampNeg) (xs (m5 + (5 : Int32)).toNatClampNeg) S7 (fun r2 S8 => (ok S8 c2 5 ∧ (wX5_thrown c2 S8 (fun r3 S9 => ((r3 = r1 → ((¬ r1 = 0 → wL_law_L28 L xs c1 c2 c3 c4 n (m5 + (6 : Int32)) S9 K) ∧ (r1 = 0 → (ok S9 c3 11 ∧ vp_in (0 : Int32) (gN S9 c3) ∧ (((lg_cmp (gJ S9 c3 (0 : Int32).toNatClampNeg) (r2).toInt64) = 0 → wL_law_L28 L xs c1 c2 c3 c4 n (m5 + (6 : Int32)) S9 K) ∧ (¬ (lg_cmp (gJ S9 c3 (0 : Int32).toNatClampNeg) (r2).toInt64) = 0 → False)))))) ∧ (¬ r3 = r1 → False))))))))))))))))))))) ∧ (xx = (1 : Int32) → (vp_in (m5 + (1 : Int32)) L ∧ (vp_in (m5 + (2 : Int32)) L ∧ (vp_in (m5 + (3 : Int32)) L ∧ (vp_in (m5 + (4 : Int32)) L ∧ (vp_in (m5 + (5 : Int32)) L ∧ (wL_fill (some c1) (xs (m5 + (1 : Int32)).toNatClampNeg) (xs (m5 + (2 : Int32)).toNatClampNeg) (xs (m5 + (3 : Int32)).toNatClampNeg) (xs (m5 + (4 : Int32)).toNatClampNeg) (xs (m5 + (5 : Int32)).toNatClampNeg) (some c3) S (fun r4 S10 => (vp_in (m5 + (1 : Int32)) L ∧ (vp_in (m5 + (2 : Int32)) L ∧ (vp_in (m5 + (3 : Int32)) L ∧ (vp_in (m5 + (4 : Int32)) L ∧ (vp_in (m5 + (5 : Int32)) L ∧ (ok S10 c2 5 ∧ (wX5_fill c2 (xs (m5 + (1 : Int32)).toNatClampNeg) (xs (m5 + (2 : Int32)).toNatClampNeg) (xs (m5 + (3 : Int32)).toNatClampNeg) (xs (m5 + (4 : Int32)).toNatClampNeg) (xs (m5 + (5 : Int32)).toNatClampNeg) S10 (fun r5 S11 => (ok S11 c2 5 ∧ (wX5_thrown c2 S11 (fun r6 S12 => ((r6 = r4 → ((¬ r4 = 0 → wL_law_L28 L xs c1 c2 c3 c4 n (m5 + (6 : Int32)) S12 K) ∧ (r4 = 0 → (ok S12 c3 11 ∧ vp_in (0 : Int32) (gN S12 c3) ∧ (((lg_cmp (gJ S12 c3 (0 : Int32).toNatClampNeg) (r5).toInt64) = 0 → wL_law_L28 L xs c1 c2 c3 c4 n (m5 + (6 : Int32)) S12 K) ∧ (¬ (lg_cmp (gJ S12 c3 (0 : Int32).toNatClampNeg) (r5).toInt64) = 0 → False)))))) ∧ (¬ r6 = r4 → False))))))))))))))))))))) ∧ (xx = (2 : Int32) → (vp_in (m5 + (1 : Int32)) L ∧ (wL_strips (some c1) (xs (m5 + (1 : Int32)).toNatClampNeg) (some c3) S (fun r7 S13 => (vp_in (m5 + (1 : Int32)) L ∧ (ok S13 c2 5 ∧ (wX5_strips c2 (xs (m5 + (1 : Int32)).toNatClampNeg) S13 (fun r8 S14 => (ok S14 c2 5 ∧ (wX5_thrown c2 S14 (fun r9 S15 => ((r9 = r7 → ((¬ r7 = 0 → wL_law_L28 L xs c1 c2 c3 c4 n (m5 + (6 : Int32)) S15 K) ∧ (r7 = 0 → (ok S15 c3 11 ∧ vp_in (0 : Int32) (gN S15 c3) ∧ (((lg_cmp (gJ S15 c3 (0 : Int32).toNatClampNeg) (r8).toInt64) = 0 → wL_law_L28 L xs c1 c2 c3 c4 n (m5 + (6 : Int32)) S15 K) ∧ (¬ (lg_cmp (gJ S15 c3 (0 : Int32).toNatClampNeg) (r8).toInt64) = 0 → False)))))) ∧ (¬ r9 = r7 → False))))))))))))) ∧ (xx = (3 : Int32) → (vp_in (m5 + (1 : Int32)) L ∧ (vp_in (m5 + (2 : Int32)) L ∧ (vp_in (m5 + (3 : Int32)) L ∧ (vp_in (m5 + (4 : Int32)) L ∧ (wL_toLay (some c1) (xs (m5 + (1 : Int32)).toNatClampNeg) (xs (m5 + (2 : Int32)).toNatClampNeg) (xs (m5 + (3 : Int32)).toNatClampNeg) (xs (m5 + (4 : Int32)).toNatClampNeg) (some c3) S (fun r10 S16 => (vp_in (m5 + (1 : Int32)) L ∧ (vp_in (m5 + (2 : Int32)) L ∧ (vp_in (m5 + (3 : Int32)) L ∧ (vp_in (m5 + (4 : Int32)) L ∧ (ok S16 c2 5 ∧ (wX5_toLay c2 (xs (m5 + (1 : Int32)).toNatClampNeg) (xs (m5 + (2 : Int32)).toNatClampNeg) (xs (m5 + (3 : Int32)).toNatClampNeg) (xs (m5 + (4 : Int32)).toNatClampNeg) S16 (fun r11 S17 => (ok S17 c2 5 ∧ (wX5_thrown c2 S17 (fun r12 S18 => ((r12 = r10 → ((¬ r10 = 0 → wL_law_L28 L xs c1 c2 c3 c4 n (m5 + (6 : Int32)) S18 K) ∧ (r10 = 0 → (ok S18 c3 11 ∧ vp_in (0 : Int32) (gN S18 c3) ∧ (((lg_cmp (gJ S18 c3 (0 : Int32).toNatClampNeg) (r11).toInt64) = 0 → wL_law_L28 L xs c1 c2 c3 c4 n (m5 + (6 : Int32)) S18 K) ∧ (¬ (lg_cmp (gJ S18 c3 (0 : Int32).toNatClampNeg) (r11).toInt64) = 0 → False)))))) ∧ (¬ r12 = r10 → False))))))))))))))))))) ∧ (xx = (4 : Int32) → (vp_in (m5 + (1 : Int32)) L ∧ (vp_in (m5 + (2 : Int32)) L ∧ (wL_setGain (some c1) (xs (m5 + (1 : Int32)).toNatClampNeg) (xs (m5 + (2 : Int32)).toNatClampNeg) (some c3) S (fun r13 S19 => (vp_in (m5 + (1 : Int32)) L ∧ (vp_in (m5 + (2 : Int32)) L ∧ (ok S19 c2 5 ∧ (wX5_setGain c2 (xs (m5 + (1 : Int32)).toNatClampNeg) (xs (m5 + (2 : Int32)).toNatClampNeg) S19 (fun r14 S20 => (ok S20 c2 5 ∧ (wX5_thrown c2 S20 (fun r15 S21 => ((r15 = r13 → ((¬ r13 = 0 → wL_law_L28 L xs c1 c2 c3 c4 n (m5 + (6 : Int32)) S21 K) ∧ (r13 = 0 → (ok S21 c3 11 ∧ vp_in (0 : Int32) (gN S21 c3) ∧ (((lg_cmp (gJ S21 c3 (0 : Int32).toNatClampNeg) (r14).toInt64) = 0 → wL_law_L28 L xs c1 c2 c3 c4 n (m5 + (6 : Int32)) S21 K) ∧ (¬ (lg_cmp (gJ S21 c3 (0 : Int32).toNatClampNeg) (r14).toInt64) = 0 → False)))))) ∧ (¬ r15 = r13 → False))))))))))))))) ∧ (xx = (5 : Int32) → (vp_in (m5 + (1 : Int32)) L ∧ (wL_match (some c1) (xs (m5 + (1 : Int32)).toNatClampNeg) (some c3) S (fun r16 S22 => (vp_in (m5 + (1 : Int32)) L ∧ (ok S22 c2 5 ∧ (wX5_match c2 (xs (m5 + (1 : Int32)).toNatClampNeg) S22 (fun r17 S23 => (ok S23 c2 5 ∧ (wX5_thrown c2 S23 (fun r18 S24 => ((r18 = r16 → ((¬ r16 = 0 → wL_law_L28 L xs c1 c2 c3 c4 n (m5 + (6 : Int32)) S24 K) ∧ (r16 = 0 → (ok S24 c3 11 ∧ vp_in (0 : Int32) (gN S24 c3) ∧ (((lg_cmp (gJ S24 c3 (0 : Int32).toNatClampNeg) (r17).toInt64) = 0 → wL_law_L28 L xs c1 c2 c3 c4 n (m5 + (6 : Int32)) S24 K) ∧ (¬ (lg_cmp (gJ S24 c3 (0 : Int32).toNatClampNeg) (r17).toInt64) = 0 → False)))))) ∧ (¬ r18 = r16 → False))))))))))))) ∧ (xx = (6 : Int32) → (vp_in (m5 + (1 : Int32)) L ∧ (vp_in (m5 + (2 : Int32)) L ∧ (wL_block (some c1) (xs (m5 + (1 : Int32)).toNatClampNeg) (xs (m5 + (2 : Int32)).toNatClampNeg) (some c3) S (fun r19 S25 => (vp_in (m5 + (1 : Int32)) L ∧ (vp_in (m5 + (2 : Int32)) L ∧ (ok S25 c2 5 ∧ (wX5_block c2 (xs (m5 + (1 : Int32)).toNatClampNeg) (xs (m5 + (2 : Int32)).toNatClampNeg) S25 (fun r20 S26 => (ok S26 c2 5 ∧ (wX5_thrown c2 S26 (fun r21 S27 => ((r21 = r19 → ((¬ r19 = 0 → wL_law_L28 L xs c1 c2 c3 c4 n (m5 + (6 : Int32)) S27 K) ∧ (r19 = 0 → (ok S27 c3 11 ∧ vp_in (0 : Int32) (gN S27 c3) ∧ (((lg_cmp (gJ S27 c3 (0 : Int32).toNatClampNeg) (r20).toInt64) = 0 → wL_law_L28 L xs c1 c2 c3 c4 n (m5 + (6 : Int32)) S27 K) ∧ (¬ (lg_cmp (gJ S27 c3 (0 : Int32).toNatClampNeg) (r20).toInt64) = 0 → False)))))) ∧ (¬ r21 = r19 → False))))))))))))))) ∧ (xx = (7 : Int32) → (vp_in (m5 + (1 : Int32)) L ∧ (wL_clean (some c1) (xs (m5 + (1 : Int32)).toNatClampNeg) (some c3) S (fun r22 S28 => (vp_in (m5 + (1 : Int32)) L ∧ (ok S28 c2 5 ∧ (wX5_clean c2 (xs (m5 + (1 : Int32)).toNatClampNeg) S28 (fun r23 S29 => (ok S29 c2 5 ∧ (wX5_thrown c2 S29 (fun r24 S30 => ((r24 = r22 → ((¬ r22 = 0 → wL_law_L28 L xs c1 c2 c3 c4 n (m5 + (6 : Int32)) S30 K) ∧ (r22 = 0 → (ok S30 c3 11 ∧ vp_in (0 : Int32) (gN S30 c3) ∧ (((lg_cmp (gJ S30 c3 (0 : Int32).toNatClampNeg) (r23).toInt64) = 0 → wL_law_L28 L xs c1 c2 c3 c4 n (m5 + (6 : Int32)) S30 K) ∧ (¬ (lg_cmp (gJ S30 c3 (0 : Int32).toNatClampNeg) (r23).toInt64) = 0 → False)))))) ∧ (¬ r24 = r22 → False))))))))))))) ∧ (xx = (8 : Int32) → (vp_in (m5 + (1 : Int32)) L ∧ (vp_in (m5 + (2 : Int32)) L ∧ (vp_in (m5 + (3 : Int32)) L ∧ (wL_patch (some c1) (xs (m5 + (1 : Int32)).toNatClampNeg) (xs (m5 + (2 : Int32)).toNatClampNeg) (xs (m5 + (3 : Int32)).toNatClampNeg) (some c3) S (fun r25 S31 => (vp_in (m5 + (1 : Int32)) L ∧ (vp_in (m5 + (2 : Int32)) L ∧ (vp_in (m5 + (3 : Int32)) L ∧ (ok S31 c2 5 ∧ (wX5_patch c2 (xs (m5 + (1 : Int32)).toNatClampNeg) (xs (m5 + (2 : Int32)).toNatClampNeg) (xs (m5 + (3 : Int32)).toNatClampNeg) S31 (fun r26 S32 => (ok S32 c2 5 ∧ (wX5_thrown c2 S32 (fun r27 S33 => ((r27 = r25 → ((¬ r25 = 0 → wL_law_L28 L xs c1 c2 c3 c4 n (m5 + (6 : Int32)) S33 K) ∧ (r25 = 0 → (ok S33 c3 11 ∧ vp_in (0 : Int32) (gN S33 c3) ∧ (((lg_cmp (gJ S33 c3 (0 : Int32).toNatClampNeg) (r26).toInt64) = 0 → wL_law_L28 L xs c1 c2 c3 c4 n (m5 + (6 : Int32)) S33 K) ∧ (¬ (lg_cmp (gJ S33 c3 (0 : Int32).toNatClampNeg) (r26).toInt64) = 0 → False)))))) ∧ (¬ r27 = r25 → False))))))))))))))))) ∧ (xx = (9 : Int32) → (vp_in (m5 + (1 : Int32)) L ∧ (vp_in (m5 + (2 : Int32)) L ∧ (vp_in (m5 + (3 : Int32)) L ∧ (wL_put (some c1) (xs (m5 + (1 : Int32)).toNatClampNeg) (xs (m5 + (2 : Int32)).toNatClampNeg) (xs (m5 + (3 : Int32)).toNatClampNeg) (some c3) S (fun r28 S34 => (vp_in (m5 + (1 : Int32)) L ∧ (vp_in (m5 + (2 : Int32)) L ∧ (vp_in (m5 + (3 : Int32)) L ∧ (ok S34 c2 5 ∧ (wX5_put c2 (xs (m5 + (1 : Int32)).toNatClampNeg) (xs (m5 + (2 : Int32)).toNatClampNeg) (xs (m5 + (3 : Int32)).toNatClampNeg) S34 (fun r29 S35 => (ok S35 c2 5 ∧ (wX5_thrown c2 S35 (fun r30 S36 => ((r30 = r28 → ((¬ r28 = 0 → wL_law_L28 L xs c1 c2 c3 c4 n (m5 + (6 : Int32)) S36 K) ∧ (r28 = 0 → (ok S36 c3 11 ∧ vp_in (0 : Int32) (gN S36 c3) ∧ (((lg_cmp (gJ S36 c3 (0 : Int32).toNatClampNeg) (r29).toInt64) = 0 → wL_law_L28 L xs c1 c2 c3 c4 n (m5 + (6 : Int32)) S36 K) ∧ (¬ (lg_cmp (gJ S36 c3 (0 : Int32).toNatClampNeg) (r29).toInt64) = 0 → False)))))) ∧ (¬ r30 = r28 → False))))))))))))))))) ∧ (xx = (10 : Int32) → (vp_in (m5 + (1 : Int32)) L ∧ (wL_pass (some c1) (xs (m5 + (1 : Int32)).toNatClampNeg) (some c3) S (fun r31 S37 => (vp_in (m5 + (1 : Int32)) L ∧ (ok S37 c2 5 ∧ (wX5_pass c2 (xs (m5 + (1 : Int32)).toNatClampNeg) S37 (fun r32 S38 => (ok S38 c2 5 ∧ (wX5_thrown c2 S38 (fun r33 S39 => ((r33 = r31 → ((¬ r31 = 0 → wL_law_L28 L xs c1 c2 c3 c4 n (m5 + (6 : Int32)) S39 K) ∧ (r31 = 0 → (ok S39 c3 11 ∧ vp_in (0 : Int32) (gN S39 c3) ∧ (((lg_cmp (gJ S39 c3 (0 : Int32).toNatClampNeg) (r32).toInt64) = 0 → wL_law_L28 L xs c1 c2 c3 c4 n (m5 + (6 : Int32)) S39 K) ∧ (¬ (lg_cmp (gJ S39 c3 (0 : Int32).toNatClampNeg) (r32).toInt64) = 0 → False)))))) ∧ (¬ r33 = r31 → False))))))))))))) ∧ (xx = (11 : Int32) → (vp_in (m5 + (1 : Int32)) L ∧ (wL_prints (some c1) (xs (m5 + (1 : Int32)).toNatClampNeg) (some c3) S (fun r34 S40 => (vp_in (m5 + (1 : Int32)) L ∧ (ok S40 c2 5 ∧ (wX5_prints c2 (xs (m5 + (1 : Int32)).toNatClampNeg) S40 (fun r35 S41 => (ok S41 c2 5 ∧ (wX5_thrown c2 S41 (fun r36 S42 => ((r36 = r34 → ((¬ r34 = 0 → wL_law_L28 L xs c1 c2 c3 c4 n (m5 + (6 : Int32)) S42 K) ∧ (r34 = 0 → (ok S42 c3 11 ∧ vp_in (0 : Int32) (gN S42 c3) ∧ (((lg_cmp (gJ S42 c3 (0 : Int32).toNatClampNeg) (r35).toInt64) = 0 → wL_law_L28 L xs c1 c2 c3 c4 n (m5 + (6 : Int32)) S42 K) ∧ (¬ (lg_cmp (gJ S42 c3 (0 : Int32).toNatClampNeg) (r35).toInt64) = 0 → False)))))) ∧ (¬ r36 = r34 → False))))))))))))) ∧ (xx = (12 : Int32) → (vp_in (m5 + (1 : Int32)) L ∧ (vp_in (m5 + (2 : Int32)) L ∧ (wL_dry (some c1) (xs (m5 + (1 : Int32)).toNatClampNeg) (xs (m5 + (2 : Int32)).toNatClampNeg) (some c3) S (fun r37 S43 => (vp_in (m5 + (1 : Int32)) L ∧ (vp_in (m5 + (2 : Int32)) L ∧ (ok S43 c2 5 ∧ (wX5_dry c2 (xs (m5 + (1 : Int32)).toNatClampNeg) (xs (m5 + (2 : Int32)).toNatClampNeg) S43 (fun r38 S44 => (ok S44 c2 5 ∧ (wX5_thrown c2 S44 (fun r39 S45 => ((r39 = r37 → ((¬ r37 = 0 → wL_law_L28 L xs c1 c2 c3 c4 n (m5 + (6 : Int32)) S45 K) ∧ (r37 = 0 → (ok S45 c3 11 ∧ vp_in (0 : Int32) (gN S45 c3) ∧ (((lg_cmp (gJ S45 c3 (0 : Int32).toNatClampNeg) (r38).toInt64) = 0 → wL_law_L28 L xs c1 c2 c3 c4 n (m5 + (6 : Int32)) S45 K) ∧ (¬ (lg_cmp (gJ S45 c3 (0 : Int32).toNatClampNeg) (r38).toInt64) = 0 → False)))))) ∧ (¬ r39 = r37 → False))))))))))))))) ∧ (xx = (13 : Int32) → (vp_in (m5 + (1 : Int32)) L ∧ (vp_in (m5 + (2 : Int32)) L ∧ (vp_in (m5 + (3 : Int32)) L ∧ (wL_ink (some c1) (xs (m5 + (1 : Int32)).toNatClampNeg) (xs (m5 + (2 : Int32)).toNatClampNeg) (xs (m5 + (3 : Int32)).toNatClampNeg) (some c3) S (fun r40 S46 => (vp_in (m5 + (1 : Int32)) L ∧ (vp_in (m5 + (2 : Int32)) L ∧ (vp_in (m5 + (3 : Int32)) L ∧ (ok S46 c2 5 ∧ (wX5_ink c2 (xs (m5 + (1 : Int32)).toNatClampNeg) (xs (m5 + (2 : Int32)).toNatClampNeg) (xs (m5 + (3 : Int32)).toNatClampNeg) S46 (fun r41 S47 => (ok S47 c2 5 ∧ (wX5_thrown c2 S47 (fun r42 S48 => ((r42 = r40 → ((¬ r40 = 0 → wL_law_L28 L xs c1 c2 c3 c4 n (m5 + (6 : Int32)) S48 K) ∧ (r40 = 0 → (ok S48 c3 11 ∧ vp_in (0 : Int32) (gN S48 c3) ∧ (((lg_cmp (gJ S48 c3 (0 : Int32).toNatClampNeg) (r41).toInt64) = 0 → wL_law_L28 L xs c1 c2 c3 c4 n (m5 + (6 : Int32)) S48 K) ∧ (¬ (lg_cmp (gJ S48 c3 (0 : Int32).toNatClampNeg) (r41).toInt64) = 0 → False)))))) ∧ (¬ r42 = r40 → False))))))))))))))))) ∧ (xx = (14 : Int32) → (vp_in (m5 + (1 : Int32)) L ∧ (wL_spilt (some c1) (xs (m5 + (1 : Int32)).toNatClampNeg) (some c3) S (fun r43 S49 => (vp_in (m5 + (1 : Int32)) L ∧ (ok S49 c2 5 ∧ (wX5_spilt c2 (xs (m5 + (1 : Int32)).toNatClampNeg) S49 (fun r44 S50 => (ok S50 c2 5 ∧ (wX5_thrown c2 S50 (fun r45 S51 => ((r45 = r43 → ((¬ r43 = 0 → wL_law_L28 L xs c1 c2 c3 c4 n (m5 + (6 : Int32)) S51 K) ∧ (r43 = 0 → (ok S51 c3 11 ∧ vp_in (0 : Int32) (gN S51 c3) ∧ (((lg_cmp (gJ S51 c3 (0 : Int32).toNatClampNeg) (r44).toInt64) = 0 → wL_law_L28 L xs c1 c2 c3 c4 n (m5 + (6 : Int32)) S51 K) ∧ (¬ (lg_cmp (gJ S51 c3 (0 : Int32).toNatClampNeg) (r44).toInt64) = 0 → False)))))) ∧ (¬ r45 = r43 → False))))))))))))) ∧ (xx = (15 : Int32) → (vp_in (m5 + (1 : Int32)) L ∧ (((xs (m5 + (1 : Int32)).toNatClampNeg) = 0 → (vp_in (m5 + (2 : Int32)) L ∧ (wL_used (some c1) (0 : Int32) (xs (m5 + (2 : Int32)).toNatClampNeg) (some c3) S (fun r46 S52 => (vp_in (m5 + (1 : Int32)) L ∧ (((xs (m5 + (1 : Int32)).toNatClampNeg) = 0 → (vp_in (m5 + (2 : Int32)) L ∧ (ok S52 c2 5 ∧ (wX5_used c2 (0 : Int32) (xs (m5 + (2 : Int32)).toNatClampNeg) S52 (fun r47 S53 => (ok S53 c2 5 ∧ (wX5_thrown c2 S53 (fun r48 S54 => ((r48 = r46 → ((¬ r46 = 0 → wL_law_L28 L xs c1 c2 c3 c4 n (m5 + (6 : Int32)) S54 K) ∧ (r46 = 0 → (ok S54 c3 11 ∧ vp_in (0 : Int32) (gN S54 c3) ∧ (((lg_cmp (gJ S54 c3 (0 : Int32).toNatClampNeg) (r47).toInt64) = 0 → wL_law_L28 L xs c1 c2 c3 c4 n (m5 + (6 : Int32)) S54 K) ∧ (¬ (lg_cmp (gJ S54 c3 (0 : Int32).toNatClampNeg) (r47).toInt64) = 0 → False)))))) ∧ (¬ r48 = r46 → False)))))))))) ∧ (¬ (xs (m5 + (1 : Int32)).toNatClampNeg) = 0 → (vp_in (m5 + (2 : Int32)) L ∧ (ok S52 c2 5 ∧ (wX5_used c2 (1 : Int32) (xs (m5 + (2 : Int32)).toNatClampNeg) S52 (fun r49 S55 => (ok S55 c2 5 ∧ (wX5_thrown c2 S55 (fun r50 S56 => ((r50 = r46 → ((¬ r46 = 0 → wL_law_L28 L xs c1 c2 c3 c4 n (m5 + (6 : Int32)) S56 K) ∧ (r46 = 0 → (ok S56 c3 11 ∧ vp_in (0 : Int32) (gN S56 c3) ∧ (((lg_cmp (gJ S56 c3 (0 : Int32).toNatClampNeg) (r49).toInt64) = 0 → wL_law_L28 L xs c1 c2 c3 c4 n (m5 + (6 : Int32)) S56 K) ∧ (¬ (lg_cmp (gJ S56 c3 (0 : Int32).toNatClampNeg) (r49).toInt64) = 0 → False)))))) ∧ (¬ r50 = r46 → False)))))))))))))))) ∧ (¬ (xs (m5 + (1 : Int32)).toNatClampNeg) = 0 → (vp_in (m5 + (2 : Int32)) L ∧ (wL_used (some c1) (1 : Int32) (xs (m5 + (2 : Int32)).toNatClampNeg) (some c3) S (fun r51 S57 => (vp_in (m5 + (1 : Int32)) L ∧ (((xs (m5 + (1 : Int32)).toNatClampNeg) = 0 → (vp_in (m5 + (2 : Int32)) L ∧ (ok S57 c2 5 ∧ (wX5_used c2 (0 : Int32) (xs (m5 + (2 : Int32)).toNatClampNeg) S57 (fun r52 S58 => (ok S58 c2 5 ∧ (wX5_thrown c2 S58 (fun r53 S59 => ((r53 = r51 → ((¬ r51 = 0 → wL_law_L28 L xs c1 c2 c3 c4 n (m5 + (6 : Int32)) S59 K) ∧ (r51 = 0 → (ok S59 c3 11 ∧ vp_in (0 : Int32) (gN S59 c3) ∧ (((lg_cmp (gJ S59 c3 (0 : Int32).toNatClampNeg) (r52).toInt64) = 0 → wL_law_L28 L xs c1 c2 c3 c4 n (m5 + (6 : Int32)) S59 K) ∧ (¬ (lg_cmp (gJ S59 c3 (0 : Int32).toNatClampNeg) (r52).toInt64) = 0 → False)))))) ∧ (¬ r53 = r51 → False)))))))))) ∧ (¬ (xs (m5 + (1 : Int32)).toNatClampNeg) = 0 → (vp_in (m5 + (2 : Int32)) L ∧ (ok S57 c2 5 ∧ (wX5_used c2 (1 : Int32) (xs (m5 + (2 : Int32)).toNatClampNeg) S57 (fun r54 S60 => (ok S60 c2 5 ∧ (wX5_thrown c2 S60 (fun r55 S61 => ((r55 = r51 → ((¬ r51 = 0 → wL_law_L28 L xs c1 c2 c3 c4 n (m5 + (6 : Int32)) S61 K) ∧ (r51 = 0 → (ok S61 c3 11 ∧ vp_in (0 : Int32) (gN S61 c3) ∧ (((lg_cmp (gJ S61 c3 (0 : Int32).toNatClampNeg) (r54).toInt64) = 0 → wL_law_L28 L xs c1 c2 c3 c4 n (m5 + (6 : Int32)) S61 K) ∧ (¬ (lg_cmp (gJ S61 c3 (0 : Int32).toNatClampNeg) (r54).toInt64) = 0 → False)))))) ∧ (¬ r55 = r51 → False))))))))))))))))))) ∧ (xx = (16 : Int32) → (vp_in (m5 + (1 : Int32)) L ∧ (vp_in (m5 + (2 : Int32)) L ∧ (wL_seam (some c1) (xs (m5 + (1 : Int32)).toNatClampNeg) (xs (m5 + (2 : Int32)).toNatClampNeg) (some c3) S (fun r56 S62 => (vp_in (m5 + (1 : Int32)) L ∧ (vp_in (m5 + (2 : Int32)) L ∧ (ok S62 c2 5 ∧ (wX5_seam c2 (xs (m5 + (1 : Int32)).toNatClampNeg) (xs (m5 + (2 : Int32)).toNatClampNeg) S62 (fun r57 S63 => (ok S63 c2 5 ∧ (wX5_thrown c2 S63 (fun r58 S64 => ((r58 = r56 → ((¬ r56 = 0 → wL_law_L28 L xs c1 c2 c3 c4 n (m5 + (6 : Int32)) S64 K) ∧ (r56 = 0 → (ok S64 c3 11 ∧ vp_in (0 : Int32) (gN S64 c3) ∧ (((lg_cmp (gJ S64 c3 (0 : Int32).toNatClampNeg) (r57).toInt64) = 0 → wL_law_L28 L xs c1 c2 c3 c4 n (m5 + (6 : Int32)) S64 K) ∧ (¬ (lg_cmp (gJ S64 c3 (0 : Int32).toNatClampNeg) (r57).toInt64) = 0 → False)))))) ∧ (¬ r58 = r56 → False))))))))))))))) ∧ (xx = (17 : Int32) → (vp_in (m5 + (1 : Int32)) L ∧ (wL_meanError (some c1) (xs (m5 + (1 : Int32)).toNatClampNeg) (some c4) S (fun r59 S65 => (vp_in (m5 + (1 : Int32)) L ∧ (ok S65 c2 5 ∧ (wX5_meanError c2 (xs (m5 + (1 : Int32)).toNatClampNeg) S65 (fun r60 S66 => (ok S66 c2 5 ∧ (wX5_thrown c2 S66 (fun r61 S67 => ((r61 = r59 → ((¬ r59 = 0 → wL_law_L28 L xs c1 c2 c3 c4 n (m5 + (6 : Int32)) S67 K) ∧ (r59 = 0 → (ok S67 c4 12 ∧ vp_in (0 : Int32) (gN S67 c4) ∧ (vf_n64 (FP.f2d r60) ∧ (((Op.cmpValue (FP.dcmp (gD S67 c4 (0 : Int32).toNatClampNeg) (FP.f2d r60)) CmpOp.l) = 0 → wL_law_L28 L xs c1 c2 c3 c4 n (m5 + (6 : Int32)) S67 K) ∧ (¬ (Op.cmpValue (FP.dcmp (gD S67 c4 (0 : Int32).toNatClampNeg) (FP.f2d r60)) CmpOp.l) = 0 → (ok S67 c4 12 ∧ vp_in (0 : Int32) (gN S67 c4) ∧ (ok S67 c4 12 ∧ vp_in (0 : Int32) (gN S67 c4) ∧ (((Op.cmpValue (FP.dcmp (gD S67 c4 (0 : Int32).toNatClampNeg) (gD S67 c4 (0 : Int32).toNatClampNeg)) CmpOp.l) = 0 → False) ∧ (¬ (Op.cmpValue (FP.dcmp (gD S67 c4 (0 : Int32).toNatClampNeg) (gD S67 c4 (0 : Int32).toNatClampNeg)) CmpOp.l) = 0 → ((¬ (Op.cmpValue (FP.fcmp r60 r60) CmpOp.l) = 0 → wL_law_L28 L xs c1 c2 c3 c4 n (m5 + (6 : Int32)) S67 K) ∧ ((Op.cmpValue (FP.fcmp r60 r60) CmpOp.l) = 0 → False))))))))))))) ∧ (¬ r61 = r59 → False))))))))))))) ∧ wL_law_L28 L xs c1 c2 c3 c4 n (m5 + (6 : Int32)) S K)))))
def wL_law (L : Nat) (xs : Nat → Int32) (S : HS) : Prop := (∀ q1, q1 ∉ gL S → ∀ S1, S1 = nw S 4 0 q1 → (wX4_init q1 S1 (fun S2 => (∀ q2, q2 ∉ gL S2 → ∀ S3, S3 = nw S2 5 0 q2 → (wX5_init q2 S3 (fun S4 => (∀ q3, q3 ∉ gL S4 → ∀ S5, S5 = nw S4 11 1 q3 → (∀ q4, q4 ∉ gL S5 → ∀ S6, S6 = nw S5 12 1 q4 → (∃ n1 : Nat, n1 ≤ 513 ∧ wL_law_L28 L xs q1 q2 q3 q4 n1 (0 : Int32) S6 (fun u1 S68 => True))))))))))
theorem kL_RL_8 : Cond.classLink RL 8 RX4 ∈ T0 := T0_mem (i := 46) (by decide +kernel) (by decide +kernel)
theorem kN_4 : Cond.instantiable RX4 4 ∈ T0 := T0_mem (i := 47) (by decide +kernel) (by decide +kernel)
theorem hfs_4 : ∀ j, j < 4 → defaultValue (tyX4 j) = vp_V (fs0 4) j := by decide +kernel
theorem kC_X4_init : Cond.code yX4_init cX4_init 2 none ∈ T0 := T0_mem (i := 50) (by decide +kernel) (by decide +kernel)
theorem kM_RL_76 : Cond.methodLink RL 76 yX4_init ∈ T0 := T0_mem (i := 48) (by decide +kernel) (by decide +kernel)
theorem hd_X4_init : yX4_init.cls ≠ "java/lang/invoke/MethodHandle" ∧ yX4_init.cls ≠ "java/lang/invoke/VarHandle" ∧ (parseMethodDescriptor yX4_init.desc).map (fun d => d.parameters.length) = some 0 := by decide +kernel
theorem kO_X4_init : Cond.instanceMethod yX4_init ∈ T0 := T0_mem (i := 49) (by decide +kernel) (by decide +kernel)
theorem kL_RL_77 : Cond.classLink RL 77 RX5 ∈ T0 := T0_mem (i := 615) (by decide +kernel) (by decide +kernel)
theorem kN_5 : Cond.instantiable RX5 20 ∈ T0 := T0_mem (i := 616) (by decide +kernel) (by decide +kernel)
theorem hfs_5 : ∀ j, j < 20 → defaultValue (tyX5 j) = vp_V (fs0 5) j := by decide +kernel
theorem kC_X5_init : Cond.code yX5_init cX5_init 2 none ∈ T0 := T0_mem (i := 619) (by decide +kernel) (by decide +kernel)
theorem kM_RL_79 : Cond.methodLink RL 79 yX5_init ∈ T0 := T0_mem (i := 617) (by decide +kernel) (by decide +kernel)
theorem hd_X5_init : yX5_init.cls ≠ "java/lang/invoke/MethodHandle" ∧ yX5_init.cls ≠ "java/lang/invoke/VarHandle" ∧ (parseMethodDescriptor yX5_init.desc).map (fun d => d.parameters.length) = some 0 := by decide +kernel
theorem kO_X5_init : Cond.instanceMethod yX5_init ∈ T0 := T0_mem (i := 618) (by decide +kernel) (by decide +kernel)
theorem kA_long : Cond.arrayClass .long ∈ T0 := T0_mem (i := 854) (by decide +kernel) (by decide +kernel)
theorem kA_double : Cond.arrayClass .double ∈ T0 := T0_mem (i := 855) (by decide +kernel) (by decide +kernel)
theorem kC_L_begin : Cond.codeWith yL_begin cL_begin 8 (some .int) [(0, 16, 19, 13), (0, 16, 23, 15)] ∈ T0 := T0_mem (i := 116) (by decide +kernel) (by decide +kernel)
theorem kI_RL : Cond.initialized RL ∈ T0 := T0_mem (i := 32) (by decide +kernel) (by decide +kernel)
theorem kM_RL_80 : Cond.methodLink RL 80 yL_begin ∈ T0 := T0_mem (i := 114) (by decide +kernel) (by decide +kernel)
theorem kS_L_begin : Cond.static yL_begin ∈ T0 := T0_mem (i := 115) (by decide +kernel) (by decide +kernel)
theorem hd_L_begin : yL_begin.cls ≠ "java/lang/invoke/MethodHandle" ∧ yL_begin.cls ≠ "java/lang/invoke/VarHandle" ∧ (parseMethodDescriptor yL_begin.desc).map (fun d => d.parameters.length) = some 7 := by decide +kernel
theorem kC_X5_begin : Cond.code yX5_begin cX5_begin 7 (some .int) ∈ T0 := T0_mem (i := 689) (by decide +kernel) (by decide +kernel)
theorem kM_RL_85 : Cond.methodLink RL 85 yX5_begin ∈ T0 := T0_mem (i := 686) (by decide +kernel) (by decide +kernel)
theorem hd_X5_begin : yX5_begin.cls ≠ "java/lang/invoke/MethodHandle" ∧ yX5_begin.cls ≠ "java/lang/invoke/VarHandle" ∧ (parseMethodDescriptor yX5_begin.desc).map (fun d => d.parameters.length) = some 5 := by decide +kernel
theorem kO_X5_begin : Cond.instanceMethod yX5_begin ∈ T0 := T0_mem (i := 687) (by decide +kernel) (by decide +kernel)
theorem kV_X5_begin : Cond.selects RX5 yX5_begin yX5_begin ∈ T0 := T0_mem (i := 688) (by decide +kernel) (by decide +kernel)
theorem kC_X5_thrown : Cond.code yX5_thrown cX5_thrown 1 (some .int) ∈ T0 := T0_mem (i := 685) (by decide +kernel) (by decide +kernel)
theorem kM_RL_86 : Cond.methodLink RL 86 yX5_thrown ∈ T0 := T0_mem (i := 682) (by decide +kernel) (by decide +kernel)
theorem hd_X5_thrown : yX5_thrown.cls ≠ "java/lang/invoke/MethodHandle" ∧ yX5_thrown.cls ≠ "java/lang/invoke/VarHandle" ∧ (parseMethodDescriptor yX5_thrown.desc).map (fun d => d.parameters.length) = some 0 := by decide +kernel
theorem kO_X5_thrown : Cond.instanceMethod yX5_thrown ∈ T0 := T0_mem (i := 683) (by decide +kernel) (by decide +kernel)
theorem kV_X5_thrown : Cond.selects RX5 yX5_thrown yX5_thrown ∈ T0 := T0_mem (i := 684) (by decide +kernel) (by decide +kernel)
theorem kC_L_fill : Cond.codeWith yL_fill cL_fill 8 (some .int) [(0, 16, 19, 20), (0, 16, 23, 13)] ∈ T0 := T0_mem (i := 313) (by decide +kernel) (by decide +kernel)
theorem kM_RL_90 : Cond.methodLink RL 90 yL_fill ∈ T0 := T0_mem (i := 311) (by decide +kernel) (by decide +kernel)
theorem kS_L_fill : Cond.static yL_fill ∈ T0 := T0_mem (i := 312) (by decide +kernel) (by decide +kernel)
theorem hd_L_fill : yL_fill.cls ≠ "java/lang/invoke/MethodHandle" ∧ yL_fill.cls ≠ "java/lang/invoke/VarHandle" ∧ (parseMethodDescriptor yL_fill.desc).map (fun d => d.parameters.length) = some 7 := by decide +kernel
theorem kC_X5_fill : Cond.code yX5_fill cX5_fill 10 (some .int) ∈ T0 := T0_mem (i := 700) (by decide +kernel) (by decide +kernel)
theorem kM_RL_92 : Cond.methodLink RL 92 yX5_fill ∈ T0 := T0_mem (i := 697) (by decide +kernel) (by decide +kernel)
theorem hd_X5_fill : yX5_fill.cls ≠ "java/lang/invoke/MethodHandle" ∧ yX5_fill.cls ≠ "java/lang/invoke/VarHandle" ∧ (parseMethodDescriptor yX5_fill.desc).map (fun d => d.parameters.length) = some 5 := by decide +kernel
theorem kO_X5_fill : Cond.instanceMethod yX5_fill ∈ T0 := T0_mem (i := 698) (by decide +kernel) (by decide +kernel)
theorem kV_X5_fill : Cond.selects RX5 yX5_fill yX5_fill ∈ T0 := T0_mem (i := 699) (by decide +kernel) (by decide +kernel)
theorem kC_L_strips : Cond.codeWith yL_strips cL_strips 4 (some .int) [(0, 9, 12, 20)] ∈ T0 := T0_mem (i := 361) (by decide +kernel) (by decide +kernel)
theorem kM_RL_93 : Cond.methodLink RL 93 yL_strips ∈ T0 := T0_mem (i := 359) (by decide +kernel) (by decide +kernel)
theorem kS_L_strips : Cond.static yL_strips ∈ T0 := T0_mem (i := 360) (by decide +kernel) (by decide +kernel)
theorem hd_L_strips : yL_strips.cls ≠ "java/lang/invoke/MethodHandle" ∧ yL_strips.cls ≠ "java/lang/invoke/VarHandle" ∧ (parseMethodDescriptor yL_strips.desc).map (fun d => d.parameters.length) = some 3 := by decide +kernel
theorem kC_X5_strips : Cond.code yX5_strips cX5_strips 2 (some .int) ∈ T0 := T0_mem (i := 718) (by decide +kernel) (by decide +kernel)
theorem kM_RL_96 : Cond.methodLink RL 96 yX5_strips ∈ T0 := T0_mem (i := 715) (by decide +kernel) (by decide +kernel)
theorem hd_X5_strips : yX5_strips.cls ≠ "java/lang/invoke/MethodHandle" ∧ yX5_strips.cls ≠ "java/lang/invoke/VarHandle" ∧ (parseMethodDescriptor yX5_strips.desc).map (fun d => d.parameters.length) = some 1 := by decide +kernel
theorem kO_X5_strips : Cond.instanceMethod yX5_strips ∈ T0 := T0_mem (i := 716) (by decide +kernel) (by decide +kernel)
theorem kV_X5_strips : Cond.selects RX5 yX5_strips yX5_strips ∈ T0 := T0_mem (i := 717) (by decide +kernel) (by decide +kernel)
theorem kC_L_toLay : Cond.codeWith yL_toLay cL_toLay 7 (some .int) [(0, 14, 17, 20)] ∈ T0 := T0_mem (i := 369) (by decide +kernel) (by decide +kernel)
theorem kM_RL_97 : Cond.methodLink RL 97 yL_toLay ∈ T0 := T0_mem (i := 367) (by decide +kernel) (by decide +kernel)
theorem kS_L_toLay : Cond.static yL_toLay ∈ T0 := T0_mem (i := 368) (by decide +kernel) (by decide +kernel)
theorem hd_L_toLay : yL_toLay.cls ≠ "java/lang/invoke/MethodHandle" ∧ yL_toLay.cls ≠ "java/lang/invoke/VarHandle" ∧ (parseMethodDescriptor yL_toLay.desc).map (fun d => d.parameters.length) = some 6 := by decide +kernel
theorem kC_X5_toLay : Cond.code yX5_toLay cX5_toLay 6 (some .int) ∈ T0 := T0_mem (i := 734) (by decide +kernel) (by decide +kernel)
theorem kM_RL_100 : Cond.methodLink RL 100 yX5_toLay ∈ T0 := T0_mem (i := 731) (by decide +kernel) (by decide +kernel)
theorem hd_X5_toLay : yX5_toLay.cls ≠ "java/lang/invoke/MethodHandle" ∧ yX5_toLay.cls ≠ "java/lang/invoke/VarHandle" ∧ (parseMethodDescriptor yX5_toLay.desc).map (fun d => d.parameters.length) = some 4 := by decide +kernel
theorem kO_X5_toLay : Cond.instanceMethod yX5_toLay ∈ T0 := T0_mem (i := 732) (by decide +kernel) (by decide +kernel)
theorem kV_X5_toLay : Cond.selects RX5 yX5_toLay yX5_toLay ∈ T0 := T0_mem (i := 733) (by decide +kernel) (by decide +kernel)
theorem kC_L_setGain : Cond.codeWith yL_setGain cL_setGain 5 (some .int) [(0, 10, 13, 20), (0, 10, 17, 13)] ∈ T0 := T0_mem (i := 396) (by decide +kernel) (by decide +kernel)
theorem kM_RL_101 : Cond.methodLink RL 101 yL_setGain ∈ T0 := T0_mem (i := 394) (by decide +kernel) (by decide +kernel)
theorem kS_L_setGain : Cond.static yL_setGain ∈ T0 := T0_mem (i := 395) (by decide +kernel) (by decide +kernel)
theorem hd_L_setGain : yL_setGain.cls ≠ "java/lang/invoke/MethodHandle" ∧ yL_setGain.cls ≠ "java/lang/invoke/VarHandle" ∧ (parseMethodDescriptor yL_setGain.desc).map (fun d => d.parameters.length) = some 4 := by decide +kernel
theorem kC_X5_setGain : Cond.code yX5_setGain cX5_setGain 5 (some .int) ∈ T0 := T0_mem (i := 750) (by decide +kernel) (by decide +kernel)
theorem kM_RL_104 : Cond.methodLink RL 104 yX5_setGain ∈ T0 := T0_mem (i := 747) (by decide +kernel) (by decide +kernel)
theorem hd_X5_setGain : yX5_setGain.cls ≠ "java/lang/invoke/MethodHandle" ∧ yX5_setGain.cls ≠ "java/lang/invoke/VarHandle" ∧ (parseMethodDescriptor yX5_setGain.desc).map (fun d => d.parameters.length) = some 2 := by decide +kernel
theorem kO_X5_setGain : Cond.instanceMethod yX5_setGain ∈ T0 := T0_mem (i := 748) (by decide +kernel) (by decide +kernel)
theorem kV_X5_setGain : Cond.selects RX5 yX5_setGain yX5_setGain ∈ T0 := T0_mem (i := 749) (by decide +kernel) (by decide +kernel)
theorem kC_L_match : Cond.codeWith yL_match cL_match 4 (some .int) [(0, 9, 12, 20)] ∈ T0 := T0_mem (i := 409) (by decide +kernel) (by decide +kernel)
theorem kM_RL_105 : Cond.methodLink RL 105 yL_match ∈ T0 := T0_mem (i := 407) (by decide +kernel) (by decide +kernel)
theorem kS_L_match : Cond.static yL_match ∈ T0 := T0_mem (i := 408) (by decide +kernel) (by decide +kernel)
theorem hd_L_match : yL_match.cls ≠ "java/lang/invoke/MethodHandle" ∧ yL_match.cls ≠ "java/lang/invoke/VarHandle" ∧ (parseMethodDescriptor yL_match.desc).map (fun d => d.parameters.length) = some 3 := by decide +kernel
theorem kC_X5_match : Cond.code yX5_match cX5_match 2 (some .int) ∈ T0 := T0_mem (i := 757) (by decide +kernel) (by decide +kernel)
theorem kM_RL_107 : Cond.methodLink RL 107 yX5_match ∈ T0 := T0_mem (i := 754) (by decide +kernel) (by decide +kernel)
theorem hd_X5_match : yX5_match.cls ≠ "java/lang/invoke/MethodHandle" ∧ yX5_match.cls ≠ "java/lang/invoke/VarHandle" ∧ (parseMethodDescriptor yX5_match.desc).map (fun d => d.parameters.length) = some 1 := by decide +kernel
theorem kO_X5_match : Cond.instanceMethod yX5_match ∈ T0 := T0_mem (i := 755) (by decide +kernel) (by decide +kernel)
theorem kV_X5_match : Cond.selects RX5 yX5_match yX5_match ∈ T0 := T0_mem (i := 756) (by decide +kernel) (by decide +kernel)
theorem kC_L_block : Cond.codeWith yL_block cL_block 5 (some .int) [(0, 10, 13, 20)] ∈ T0 := T0_mem (i := 420) (by decide +kernel) (by decide +kernel)
theorem kM_RL_108 : Cond.methodLink RL 108 yL_block ∈ T0 := T0_mem (i := 418) (by decide +kernel) (by decide +kernel)
theorem kS_L_block : Cond.static yL_block ∈ T0 := T0_mem (i := 419) (by decide +kernel) (by decide +kernel)
theorem hd_L_block : yL_block.cls ≠ "java/lang/invoke/MethodHandle" ∧ yL_block.cls ≠ "java/lang/invoke/VarHandle" ∧ (parseMethodDescriptor yL_block.desc).map (fun d => d.parameters.length) = some 4 := by decide +kernel
theorem kC_X5_block : Cond.code yX5_block cX5_block 3 (some .int) ∈ T0 := T0_mem (i := 761) (by decide +kernel) (by decide +kernel)
theorem kM_RL_110 : Cond.methodLink RL 110 yX5_block ∈ T0 := T0_mem (i := 758) (by decide +kernel) (by decide +kernel)
theorem hd_X5_block : yX5_block.cls ≠ "java/lang/invoke/MethodHandle" ∧ yX5_block.cls ≠ "java/lang/invoke/VarHandle" ∧ (parseMethodDescriptor yX5_block.desc).map (fun d => d.parameters.length) = some 2 := by decide +kernel
theorem kO_X5_block : Cond.instanceMethod yX5_block ∈ T0 := T0_mem (i := 759) (by decide +kernel) (by decide +kernel)
theorem kV_X5_block : Cond.selects RX5 yX5_block yX5_block ∈ T0 := T0_mem (i := 760) (by decide +kernel) (by decide +kernel)
theorem kC_L_clean : Cond.codeWith yL_clean cL_clean 4 (some .int) [(0, 9, 12, 20), (0, 9, 15, 15)] ∈ T0 := T0_mem (i := 436) (by decide +kernel) (by decide +kernel)
theorem kM_RL_111 : Cond.methodLink RL 111 yL_clean ∈ T0 := T0_mem (i := 434) (by decide +kernel) (by decide +kernel)
theorem kS_L_clean : Cond.static yL_clean ∈ T0 := T0_mem (i := 435) (by decide +kernel) (by decide +kernel)
theorem hd_L_clean : yL_clean.cls ≠ "java/lang/invoke/MethodHandle" ∧ yL_clean.cls ≠ "java/lang/invoke/VarHandle" ∧ (parseMethodDescriptor yL_clean.desc).map (fun d => d.parameters.length) = some 3 := by decide +kernel
theorem kC_X5_clean : Cond.code yX5_clean cX5_clean 5 (some .int) ∈ T0 := T0_mem (i := 769) (by decide +kernel) (by decide +kernel)
theorem kM_RL_113 : Cond.methodLink RL 113 yX5_clean ∈ T0 := T0_mem (i := 766) (by decide +kernel) (by decide +kernel)
theorem hd_X5_clean : yX5_clean.cls ≠ "java/lang/invoke/MethodHandle" ∧ yX5_clean.cls ≠ "java/lang/invoke/VarHandle" ∧ (parseMethodDescriptor yX5_clean.desc).map (fun d => d.parameters.length) = some 1 := by decide +kernel
theorem kO_X5_clean : Cond.instanceMethod yX5_clean ∈ T0 := T0_mem (i := 767) (by decide +kernel) (by decide +kernel)
theorem kV_X5_clean : Cond.selects RX5 yX5_clean yX5_clean ∈ T0 := T0_mem (i := 768) (by decide +kernel) (by decide +kernel)
theorem kC_L_patch : Cond.codeWith yL_patch cL_patch 6 (some .int) [(0, 12, 15, 20), (0, 12, 19, 13)] ∈ T0 := T0_mem (i := 452) (by decide +kernel) (by decide +kernel)
theorem kM_RL_114 : Cond.methodLink RL 114 yL_patch ∈ T0 := T0_mem (i := 450) (by decide +kernel) (by decide +kernel)
theorem kS_L_patch : Cond.static yL_patch ∈ T0 := T0_mem (i := 451) (by decide +kernel) (by decide +kernel)
theorem hd_L_patch : yL_patch.cls ≠ "java/lang/invoke/MethodHandle" ∧ yL_patch.cls ≠ "java/lang/invoke/VarHandle" ∧ (parseMethodDescriptor yL_patch.desc).map (fun d => d.parameters.length) = some 5 := by decide +kernel
theorem kC_X5_patch : Cond.code yX5_patch cX5_patch 6 (some .int) ∈ T0 := T0_mem (i := 773) (by decide +kernel) (by decide +kernel)
theorem kM_RL_117 : Cond.methodLink RL 117 yX5_patch ∈ T0 := T0_mem (i := 770) (by decide +kernel) (by decide +kernel)
theorem hd_X5_patch : yX5_patch.cls ≠ "java/lang/invoke/MethodHandle" ∧ yX5_patch.cls ≠ "java/lang/invoke/VarHandle" ∧ (parseMethodDescriptor yX5_patch.desc).map (fun d => d.parameters.length) = some 3 := by decide +kernel
theorem kO_X5_patch : Cond.instanceMethod yX5_patch ∈ T0 := T0_mem (i := 771) (by decide +kernel) (by decide +kernel)
theorem kV_X5_patch : Cond.selects RX5 yX5_patch yX5_patch ∈ T0 := T0_mem (i := 772) (by decide +kernel) (by decide +kernel)
theorem kC_L_put : Cond.codeWith yL_put cL_put 6 (some .int) [(0, 12, 15, 20), (0, 12, 19, 15)] ∈ T0 := T0_mem (i := 481) (by decide +kernel) (by decide +kernel)
theorem kM_RL_118 : Cond.methodLink RL 118 yL_put ∈ T0 := T0_mem (i := 479) (by decide +kernel) (by decide +kernel)
theorem kS_L_put : Cond.static yL_put ∈ T0 := T0_mem (i := 480) (by decide +kernel) (by decide +kernel)
theorem hd_L_put : yL_put.cls ≠ "java/lang/invoke/MethodHandle" ∧ yL_put.cls ≠ "java/lang/invoke/VarHandle" ∧ (parseMethodDescriptor yL_put.desc).map (fun d => d.parameters.length) = some 5 := by decide +kernel
theorem kC_X5_put : Cond.code yX5_put cX5_put 8 (some .int) ∈ T0 := T0_mem (i := 789) (by decide +kernel) (by decide +kernel)
theorem kM_RL_120 : Cond.methodLink RL 120 yX5_put ∈ T0 := T0_mem (i := 786) (by decide +kernel) (by decide +kernel)
theorem hd_X5_put : yX5_put.cls ≠ "java/lang/invoke/MethodHandle" ∧ yX5_put.cls ≠ "java/lang/invoke/VarHandle" ∧ (parseMethodDescriptor yX5_put.desc).map (fun d => d.parameters.length) = some 3 := by decide +kernel
theorem kO_X5_put : Cond.instanceMethod yX5_put ∈ T0 := T0_mem (i := 787) (by decide +kernel) (by decide +kernel)
theorem kV_X5_put : Cond.selects RX5 yX5_put yX5_put ∈ T0 := T0_mem (i := 788) (by decide +kernel) (by decide +kernel)
theorem kC_L_pass : Cond.codeWith yL_pass cL_pass 4 (some .int) [(0, 9, 12, 13)] ∈ T0 := T0_mem (i := 490) (by decide +kernel) (by decide +kernel)
theorem kM_RL_121 : Cond.methodLink RL 121 yL_pass ∈ T0 := T0_mem (i := 488) (by decide +kernel) (by decide +kernel)
theorem kS_L_pass : Cond.static yL_pass ∈ T0 := T0_mem (i := 489) (by decide +kernel) (by decide +kernel)
theorem hd_L_pass : yL_pass.cls ≠ "java/lang/invoke/MethodHandle" ∧ yL_pass.cls ≠ "java/lang/invoke/VarHandle" ∧ (parseMethodDescriptor yL_pass.desc).map (fun d => d.parameters.length) = some 3 := by decide +kernel
theorem kC_X5_pass : Cond.code yX5_pass cX5_pass 4 (some .int) ∈ T0 := T0_mem (i := 797) (by decide +kernel) (by decide +kernel)
theorem kM_RL_123 : Cond.methodLink RL 123 yX5_pass ∈ T0 := T0_mem (i := 794) (by decide +kernel) (by decide +kernel)
theorem hd_X5_pass : yX5_pass.cls ≠ "java/lang/invoke/MethodHandle" ∧ yX5_pass.cls ≠ "java/lang/invoke/VarHandle" ∧ (parseMethodDescriptor yX5_pass.desc).map (fun d => d.parameters.length) = some 1 := by decide +kernel
theorem kO_X5_pass : Cond.instanceMethod yX5_pass ∈ T0 := T0_mem (i := 795) (by decide +kernel) (by decide +kernel)
theorem kV_X5_pass : Cond.selects RX5 yX5_pass yX5_pass ∈ T0 := T0_mem (i := 796) (by decide +kernel) (by decide +kernel)
theorem kC_L_prints : Cond.codeWith yL_prints cL_prints 4 (some .int) [(0, 9, 12, 20)] ∈ T0 := T0_mem (i := 536) (by decide +kernel) (by decide +kernel)
theorem kM_RL_124 : Cond.methodLink RL 124 yL_prints ∈ T0 := T0_mem (i := 534) (by decide +kernel) (by decide +kernel)
theorem kS_L_prints : Cond.static yL_prints ∈ T0 := T0_mem (i := 535) (by decide +kernel) (by decide +kernel)
theorem hd_L_prints : yL_prints.cls ≠ "java/lang/invoke/MethodHandle" ∧ yL_prints.cls ≠ "java/lang/invoke/VarHandle" ∧ (parseMethodDescriptor yL_prints.desc).map (fun d => d.parameters.length) = some 3 := by decide +kernel
theorem kC_X5_prints : Cond.code yX5_prints cX5_prints 3 (some .int) ∈ T0 := T0_mem (i := 817) (by decide +kernel) (by decide +kernel)
theorem kM_RL_126 : Cond.methodLink RL 126 yX5_prints ∈ T0 := T0_mem (i := 814) (by decide +kernel) (by decide +kernel)
theorem hd_X5_prints : yX5_prints.cls ≠ "java/lang/invoke/MethodHandle" ∧ yX5_prints.cls ≠ "java/lang/invoke/VarHandle" ∧ (parseMethodDescriptor yX5_prints.desc).map (fun d => d.parameters.length) = some 1 := by decide +kernel
theorem kO_X5_prints : Cond.instanceMethod yX5_prints ∈ T0 := T0_mem (i := 815) (by decide +kernel) (by decide +kernel)
theorem kV_X5_prints : Cond.selects RX5 yX5_prints yX5_prints ∈ T0 := T0_mem (i := 816) (by decide +kernel) (by decide +kernel)
theorem kC_L_dry : Cond.codeWith yL_dry cL_dry 5 (some .int) [(0, 10, 13, 20)] ∈ T0 := T0_mem (i := 543) (by decide +kernel) (by decide +kernel)
theorem kM_RL_127 : Cond.methodLink RL 127 yL_dry ∈ T0 := T0_mem (i := 541) (by decide +kernel) (by decide +kernel)
theorem kS_L_dry : Cond.static yL_dry ∈ T0 := T0_mem (i := 542) (by decide +kernel) (by decide +kernel)
theorem hd_L_dry : yL_dry.cls ≠ "java/lang/invoke/MethodHandle" ∧ yL_dry.cls ≠ "java/lang/invoke/VarHandle" ∧ (parseMethodDescriptor yL_dry.desc).map (fun d => d.parameters.length) = some 4 := by decide +kernel
theorem kC_X5_dry : Cond.code yX5_dry cX5_dry 3 (some .int) ∈ T0 := T0_mem (i := 821) (by decide +kernel) (by decide +kernel)
theorem kM_RL_129 : Cond.methodLink RL 129 yX5_dry ∈ T0 := T0_mem (i := 818) (by decide +kernel) (by decide +kernel)
theorem hd_X5_dry : yX5_dry.cls ≠ "java/lang/invoke/MethodHandle" ∧ yX5_dry.cls ≠ "java/lang/invoke/VarHandle" ∧ (parseMethodDescriptor yX5_dry.desc).map (fun d => d.parameters.length) = some 2 := by decide +kernel
theorem kO_X5_dry : Cond.instanceMethod yX5_dry ∈ T0 := T0_mem (i := 819) (by decide +kernel) (by decide +kernel)
theorem kV_X5_dry : Cond.selects RX5 yX5_dry yX5_dry ∈ T0 := T0_mem (i := 820) (by decide +kernel) (by decide +kernel)
theorem kC_L_ink : Cond.codeWith yL_ink cL_ink 6 (some .int) [(0, 12, 15, 20)] ∈ T0 := T0_mem (i := 551) (by decide +kernel) (by decide +kernel)
theorem kM_RL_130 : Cond.methodLink RL 130 yL_ink ∈ T0 := T0_mem (i := 549) (by decide +kernel) (by decide +kernel)
theorem kS_L_ink : Cond.static yL_ink ∈ T0 := T0_mem (i := 550) (by decide +kernel) (by decide +kernel)
theorem hd_L_ink : yL_ink.cls ≠ "java/lang/invoke/MethodHandle" ∧ yL_ink.cls ≠ "java/lang/invoke/VarHandle" ∧ (parseMethodDescriptor yL_ink.desc).map (fun d => d.parameters.length) = some 5 := by decide +kernel
theorem kC_X5_ink : Cond.code yX5_ink cX5_ink 4 (some .int) ∈ T0 := T0_mem (i := 825) (by decide +kernel) (by decide +kernel)
theorem kM_RL_132 : Cond.methodLink RL 132 yX5_ink ∈ T0 := T0_mem (i := 822) (by decide +kernel) (by decide +kernel)
theorem hd_X5_ink : yX5_ink.cls ≠ "java/lang/invoke/MethodHandle" ∧ yX5_ink.cls ≠ "java/lang/invoke/VarHandle" ∧ (parseMethodDescriptor yX5_ink.desc).map (fun d => d.parameters.length) = some 3 := by decide +kernel
theorem kO_X5_ink : Cond.instanceMethod yX5_ink ∈ T0 := T0_mem (i := 823) (by decide +kernel) (by decide +kernel)
theorem kV_X5_ink : Cond.selects RX5 yX5_ink yX5_ink ∈ T0 := T0_mem (i := 824) (by decide +kernel) (by decide +kernel)
theorem kC_L_spilt : Cond.codeWith yL_spilt cL_spilt 4 (some .int) [(0, 9, 12, 20)] ∈ T0 := T0_mem (i := 562) (by decide +kernel) (by decide +kernel)
theorem kM_RL_133 : Cond.methodLink RL 133 yL_spilt ∈ T0 := T0_mem (i := 560) (by decide +kernel) (by decide +kernel)
theorem kS_L_spilt : Cond.static yL_spilt ∈ T0 := T0_mem (i := 561) (by decide +kernel) (by decide +kernel)
theorem hd_L_spilt : yL_spilt.cls ≠ "java/lang/invoke/MethodHandle" ∧ yL_spilt.cls ≠ "java/lang/invoke/VarHandle" ∧ (parseMethodDescriptor yL_spilt.desc).map (fun d => d.parameters.length) = some 3 := by decide +kernel
theorem kC_X5_spilt : Cond.code yX5_spilt cX5_spilt 4 (some .int) ∈ T0 := T0_mem (i := 837) (by decide +kernel) (by decide +kernel)
theorem kM_RL_135 : Cond.methodLink RL 135 yX5_spilt ∈ T0 := T0_mem (i := 834) (by decide +kernel) (by decide +kernel)
theorem hd_X5_spilt : yX5_spilt.cls ≠ "java/lang/invoke/MethodHandle" ∧ yX5_spilt.cls ≠ "java/lang/invoke/VarHandle" ∧ (parseMethodDescriptor yX5_spilt.desc).map (fun d => d.parameters.length) = some 1 := by decide +kernel
theorem kO_X5_spilt : Cond.instanceMethod yX5_spilt ∈ T0 := T0_mem (i := 835) (by decide +kernel) (by decide +kernel)
theorem kV_X5_spilt : Cond.selects RX5 yX5_spilt yX5_spilt ∈ T0 := T0_mem (i := 836) (by decide +kernel) (by decide +kernel)
theorem kC_L_used : Cond.codeWith yL_used cL_used 5 (some .int) [(0, 10, 13, 20)] ∈ T0 := T0_mem (i := 573) (by decide +kernel) (by decide +kernel)
theorem kM_RL_136 : Cond.methodLink RL 136 yL_used ∈ T0 := T0_mem (i := 571) (by decide +kernel) (by decide +kernel)
theorem kS_L_used : Cond.static yL_used ∈ T0 := T0_mem (i := 572) (by decide +kernel) (by decide +kernel)
theorem hd_L_used : yL_used.cls ≠ "java/lang/invoke/MethodHandle" ∧ yL_used.cls ≠ "java/lang/invoke/VarHandle" ∧ (parseMethodDescriptor yL_used.desc).map (fun d => d.parameters.length) = some 4 := by decide +kernel
theorem kC_X5_used : Cond.code yX5_used cX5_used 4 (some .int) ∈ T0 := T0_mem (i := 841) (by decide +kernel) (by decide +kernel)
theorem kM_RL_139 : Cond.methodLink RL 139 yX5_used ∈ T0 := T0_mem (i := 838) (by decide +kernel) (by decide +kernel)
theorem hd_X5_used : yX5_used.cls ≠ "java/lang/invoke/MethodHandle" ∧ yX5_used.cls ≠ "java/lang/invoke/VarHandle" ∧ (parseMethodDescriptor yX5_used.desc).map (fun d => d.parameters.length) = some 2 := by decide +kernel
theorem kO_X5_used : Cond.instanceMethod yX5_used ∈ T0 := T0_mem (i := 839) (by decide +kernel) (by decide +kernel)
theorem kV_X5_used : Cond.selects RX5 yX5_used yX5_used ∈ T0 := T0_mem (i := 840) (by decide +kernel) (by decide +kernel)
theorem kC_L_seam : Cond.codeWith yL_seam cL_seam 5 (some .int) [(0, 10, 13, 20), (0, 10, 17, 15)] ∈ T0 := T0_mem (i := 580) (by decide +kernel) (by decide +kernel)
theorem kM_RL_140 : Cond.methodLink RL 140 yL_seam ∈ T0 := T0_mem (i := 578) (by decide +kernel) (by decide +kernel)
theorem kS_L_seam : Cond.static yL_seam ∈ T0 := T0_mem (i := 579) (by decide +kernel) (by decide +kernel)
theorem hd_L_seam : yL_seam.cls ≠ "java/lang/invoke/MethodHandle" ∧ yL_seam.cls ≠ "java/lang/invoke/VarHandle" ∧ (parseMethodDescriptor yL_seam.desc).map (fun d => d.parameters.length) = some 4 := by decide +kernel
theorem kC_X5_seam : Cond.code yX5_seam cX5_seam 11 (some .int) ∈ T0 := T0_mem (i := 845) (by decide +kernel) (by decide +kernel)
theorem kM_RL_142 : Cond.methodLink RL 142 yX5_seam ∈ T0 := T0_mem (i := 842) (by decide +kernel) (by decide +kernel)
theorem hd_X5_seam : yX5_seam.cls ≠ "java/lang/invoke/MethodHandle" ∧ yX5_seam.cls ≠ "java/lang/invoke/VarHandle" ∧ (parseMethodDescriptor yX5_seam.desc).map (fun d => d.parameters.length) = some 2 := by decide +kernel
theorem kO_X5_seam : Cond.instanceMethod yX5_seam ∈ T0 := T0_mem (i := 843) (by decide +kernel) (by decide +kernel)
theorem kV_X5_seam : Cond.selects RX5 yX5_seam yX5_seam ∈ T0 := T0_mem (i := 844) (by decide +kernel) (by decide +kernel)
theorem kC_L_meanError : Cond.codeWith yL_meanError cL_meanError 4 (some .int) [(0, 9, 12, 20)] ∈ T0 := T0_mem (i := 606) (by decide +kernel) (by decide +kernel)
theorem kM_RL_143 : Cond.methodLink RL 143 yL_meanError ∈ T0 := T0_mem (i := 604) (by decide +kernel) (by decide +kernel)
theorem kS_L_meanError : Cond.static yL_meanError ∈ T0 := T0_mem (i := 605) (by decide +kernel) (by decide +kernel)
theorem hd_L_meanError : yL_meanError.cls ≠ "java/lang/invoke/MethodHandle" ∧ yL_meanError.cls ≠ "java/lang/invoke/VarHandle" ∧ (parseMethodDescriptor yL_meanError.desc).map (fun d => d.parameters.length) = some 3 := by decide +kernel
theorem kC_X5_meanError : Cond.code yX5_meanError cX5_meanError 4 (some .float) ∈ T0 := T0_mem (i := 853) (by decide +kernel) (by decide +kernel)
theorem kM_RL_146 : Cond.methodLink RL 146 yX5_meanError ∈ T0 := T0_mem (i := 850) (by decide +kernel) (by decide +kernel)
theorem hd_X5_meanError : yX5_meanError.cls ≠ "java/lang/invoke/MethodHandle" ∧ yX5_meanError.cls ≠ "java/lang/invoke/VarHandle" ∧ (parseMethodDescriptor yX5_meanError.desc).map (fun d => d.parameters.length) = some 1 := by decide +kernel
theorem kO_X5_meanError : Cond.instanceMethod yX5_meanError ∈ T0 := T0_mem (i := 851) (by decide +kernel) (by decide +kernel)
theorem kV_X5_meanError : Cond.selects RX5 yX5_meanError yX5_meanError ∈ T0 := T0_mem (i := 852) (by decide +kernel) (by decide +kernel)
theorem sw18 {x : Int32} (h0 : ¬ x = 0) (h1 : ¬ x = 1) (h2 : ¬ x = 2) (h3 : ¬ x = 3) (h4 : ¬ x = 4) (h5 : ¬ x = 5) (h6 : ¬ x = 6) (h7 : ¬ x = 7) (h8 : ¬ x = 8) (h9 : ¬ x = 9) (h10 : ¬ x = 10) (h11 : ¬ x = 11) (h12 : ¬ x = 12) (h13 : ¬ x = 13) (h14 : ¬ x = 14) (h15 : ¬ x = 15) (h16 : ¬ x = 16) (h17 : ¬ x = 17) : x.toInt < 0 ∨ 17 < x.toInt := by
  have q : ∀ (k : Int32) (z : Int), k.toInt = z → ¬ x = k → ¬ x.toInt = z := fun k z hz h e => h (Int32.toInt_inj.mp (e.trans hz.symm))
  have g0 := q 0 0 (by decide) h0
  have g1 := q 1 1 (by decide) h1
  have g2 := q 2 2 (by decide) h2
  have g3 := q 3 3 (by decide) h3
  have g4 := q 4 4 (by decide) h4
  have g5 := q 5 5 (by decide) h5
  have g6 := q 6 6 (by decide) h6
  have g7 := q 7 7 (by decide) h7
  have g8 := q 8 8 (by decide) h8
  have g9 := q 9 9 (by decide) h9
  have g10 := q 10 10 (by decide) h10
  have g11 := q 11 11 (by decide) h11
  have g12 := q 12 12 (by decide) h12
  have g13 := q 13 13 (by decide) h13
  have g14 := q 14 14 (by decide) h14
  have g15 := q 15 15 (by decide) h15
  have g16 := q 16 16 (by decide) h16
  have g17 := q 17 17 (by decide) h17
  omega
set_option maxHeartbeats 40000000 in
set_option maxRecDepth 100000 in
theorem law_walk (l : Launch) (hst : l.stackTraces = false) {p : Program} {e : Env} {s : State} {m : MethodId} {below : List Frame} {meth : Method} {c : Code} {b L lo : Nat} {xs : Nat → Int32} {D : va_G} {cs : Nat → ClassId} {S : HS} {ls : Array Slot} (B : Bx p m c cL_law 8 s #[Value.ref b] RL D cs lo) (hlo : lo = s.heap.size) (hr : meth.sig.returnType = ret) (hlk : meth.locks = false) (hX : va_X b L xs s s.heap) (hbl : b < s.heap.size) (hbA : ¬ lo ≤ b) (h : Hx D cs lo s S s.heap []) (hl : lv_has ls 8 [(0, .ref b)]) (hw : wL_law L xs S) : W p l e room_1 s m #[Value.ref b] below meth c s.heap [] 0 0 (lw_Z below #[Value.ref b] s) (F0 m 0 ls []) := by
  revert h hl hw
  have L28 : ∀ (c1 : Nat) (c2 : Nat) (c3 : Nat) (c4 : Nat) (K : Int32 → HS → Prop) (n : Nat) (m5 : Int32) (S : HS) (H : Heap) (locs : List Loc) (ls : Array Slot) (cells slots : Nat), cells + n * 57 ≤ 601024 → slots + n * 5060 ≤ 7293034 → Hx D cs lo s S H locs → lv_has ls 8 [(0, .ref b), (1, .ref c1), (2, .ref c2), (3, .ref c3), (4, .ref c4), (5, .int m5)] → wL_law_L28 L xs c1 c2 c3 c4 n m5 S K → (∀ (m5 : Int32) (S : HS) (H : Heap) (locs : List Loc) (ls : Array Slot) (cells slots : Nat), cells ≤ 601024 → slots ≤ 7293034 → Hx D cs lo s S H locs → lv_has ls 8 [(0, .ref b), (1, .ref c1), (2, .ref c2), (3, .ref c3), (4, .ref c4), (5, .int m5)] → K m5 S → W p l e room_1 s m #[Value.ref b] below meth c H locs cells slots (lw_Z below #[Value.ref b] s) (F0 m 1448 ls [])) → W p l e room_1 s m #[Value.ref b] below meth c H locs cells slots (lw_Z below #[Value.ref b] s) (F0 m 28 ls []) := by
    intro c1 c2 c3 c4 K n
    induction n with
    | zero => intro m5 S H locs ls cells slots hcc hss h hl hw hk; exact False.elim hw
    | succ n ih =>
      intro m5 S H locs ls cells slots hcc hss h hl hw hk
      refine lv_iload B.1.1 B.1.2.1 dL_law_28 (lv_at hl 5 rfl) ?_
      refine lv_aload_n B.1.1 B.1.2.1 dL_law_30 rfl (lv_at hl 0 rfl) ?_
      refine va_slen B.1.1 B.1.2.1 hX hbl hbA h.2 dL_law_31 ?_
      refine lv_bipush (v := (6 : Int32)) B.1.1 B.1.2.1 dL_law_32 (by decide) ?_
      refine lv_isub B.1.1 B.1.2.1 dL_law_34 ?_
      refine lv_icmp_gt (tgt := 1448) B.1.1 B.1.2.1 dL_law_35 (by decide) (fun hc => ?_) (fun hc => ?_)
      · replace hw := hw.1 hc
        exact hk m5 _ _ _ ls _ _ (by omega) (by omega) h (lv_sub hl [0, 1, 2, 3, 4, 5] rfl) hw
      · replace hw := hw.2 hc
        refine lv_aload_n B.1.1 B.1.2.1 dL_law_38 rfl (lv_at hl 0 rfl) ?_
        refine lv_iload B.1.1 B.1.2.1 dL_law_39 (lv_at hl 5 rfl) ?_
        obtain ⟨hin9, hw⟩ := hw
        refine va_sld B.1.1 B.1.2.1 hX hbl hbA h.2 hin9 dL_law_41 ?_
        refine lv_bipush (v := (31 : Int32)) B.1.1 B.1.2.1 dL_law_42 (by decide) ?_
        refine lv_iand B.1.1 B.1.2.1 dL_law_44 ?_
        obtain ⟨xx, hxx⟩ : ∃ z, z = ((xs m5.toNatClampNeg) &&& (31 : Int32)) := ⟨_, rfl⟩
        rw [← hxx]
        replace hw := hw xx hxx
        by_cases hk0 : xx = (0 : Int32)
        · replace hw := hw.1 hk0
          rw [hk0]
          refine lv_tableIn (off := 87) (tgt := 132) B.1.1 B.1.2.1 dL_law_45 (by decide) (by decide) (by decide) (by decide) ?_
          refine lv_aload_n B.1.1 B.1.2.1 dL_law_132 rfl (lv_at hl 1 rfl) ?_
          refine lv_aload_n B.1.1 B.1.2.1 dL_law_133 rfl (lv_at hl 0 rfl) ?_
          refine lv_iload B.1.1 B.1.2.1 dL_law_134 (lv_at hl 5 rfl) ?_
          refine lv_iconst (v := (1 : Int32)) B.1.1 B.1.2.1 dL_law_136 (by decide) ?_
          refine lv_iadd B.1.1 B.1.2.1 dL_law_137 ?_
          obtain ⟨hin9, hw⟩ := hw
          refine va_sld B.1.1 B.1.2.1 hX hbl hbA h.2 hin9 dL_law_138 ?_
          refine lv_aload_n B.1.1 B.1.2.1 dL_law_139 rfl (lv_at hl 0 rfl) ?_
          refine lv_iload B.1.1 B.1.2.1 dL_law_140 (lv_at hl 5 rfl) ?_
          refine lv_iconst (v := (2 : Int32)) B.1.1 B.1.2.1 dL_law_142 (by decide) ?_
          refine lv_iadd B.1.1 B.1.2.1 dL_law_143 ?_
          obtain ⟨hin9, hw⟩ := hw
          refine va_sld B.1.1 B.1.2.1 hX hbl hbA h.2 hin9 dL_law_144 ?_
          refine lv_aload_n B.1.1 B.1.2.1 dL_law_145 rfl (lv_at hl 0 rfl) ?_
          refine lv_iload B.1.1 B.1.2.1 dL_law_146 (lv_at hl 5 rfl) ?_
          refine lv_iconst (v := (3 : Int32)) B.1.1 B.1.2.1 dL_law_148 (by decide) ?_
          refine lv_iadd B.1.1 B.1.2.1 dL_law_149 ?_
          obtain ⟨hin9, hw⟩ := hw
          refine va_sld B.1.1 B.1.2.1 hX hbl hbA h.2 hin9 dL_law_150 ?_
          refine lv_aload_n B.1.1 B.1.2.1 dL_law_151 rfl (lv_at hl 0 rfl) ?_
          refine lv_iload B.1.1 B.1.2.1 dL_law_152 (lv_at hl 5 rfl) ?_
          refine lv_iconst (v := (4 : Int32)) B.1.1 B.1.2.1 dL_law_154 (by decide) ?_
          refine lv_iadd B.1.1 B.1.2.1 dL_law_155 ?_
          obtain ⟨hin9, hw⟩ := hw
          refine va_sld B.1.1 B.1.2.1 hX hbl hbA h.2 hin9 dL_law_156 ?_
          refine lv_aload_n B.1.1 B.1.2.1 dL_law_157 rfl (lv_at hl 0 rfl) ?_
          refine lv_iload B.1.1 B.1.2.1 dL_law_158 (lv_at hl 5 rfl) ?_
          refine lv_iconst (v := (5 : Int32)) B.1.1 B.1.2.1 dL_law_160 (by decide) ?_
          refine lv_iadd B.1.1 B.1.2.1 dL_law_161 ?_
          obtain ⟨hin9, hw⟩ := hw
          refine va_sld B.1.1 B.1.2.1 hX hbl hbA h.2 hin9 dL_law_162 ?_
          refine lv_aload_n B.1.1 B.1.2.1 dL_law_163 rfl (lv_at hl 3 rfl) ?_
          refine q_callH B h (met_L_begin l hst (some c1) (xs (m5 + (1 : Int32)).toNatClampNeg) (xs (m5 + (2 : Int32)).toNatClampNeg) (xs (m5 + (3 : Int32)).toNatClampNeg) (xs (m5 + (4 : Int32)).toNatClampNeg) (xs (m5 + (5 : Int32)).toNatClampNeg) (some c3)) (CSW B 7 kC_L_begin kI_RL kM_RL_80 kS_L_begin hd_L_begin ⟨Nat.le_of_ble_eq_true rfl, Nat.le_of_ble_eq_true rfl⟩) (rest := []) rfl rfl hl.1 (Nat.le_of_ble_eq_true rfl) dL_law_164 ⟨(by show _ ≤ 601024; omega), (by show _ ≤ 7293034; omega)⟩ hw (fun r1 S7 H locs hw9 h9 => ?_)
          replace hw := hw9
          clear hw9
          replace h := h9
          clear h9
          refine lv_istore (i := 6) (lv' := [(6, .int r1), (0, .ref b), (1, .ref c1), (2, .ref c2), (3, .ref c3), (4, .ref c4), (5, .int m5)]) B.1.1 B.1.2.1 dL_law_167 hl (by decide) rfl (fun ls hl9 => ?_)
          replace hl := hl9
          clear hl9
          refine lv_aload_n B.1.1 B.1.2.1 dL_law_169 rfl (lv_at hl 3 rfl) ?_
          refine lv_aload_n B.1.1 B.1.2.1 dL_law_170 rfl (lv_at hl 1 rfl) ?_
          refine lv_iload B.1.1 B.1.2.1 dL_law_171 (lv_at hl 6 rfl) ?_
          refine lv_iconst (v := (1 : Int32)) B.1.1 B.1.2.1 dL_law_173 (by decide) ?_
          refine lv_iadd B.1.1 B.1.2.1 dL_law_174 ?_
          obtain ⟨hin9, hw⟩ := hw
          refine va_sld B.1.1 B.1.2.1 hX hbl hbA h.2 hin9 dL_law_175 ?_
          refine lv_aload_n B.1.1 B.1.2.1 dL_law_176 rfl (lv_at hl 1 rfl) ?_
          refine lv_iload B.1.1 B.1.2.1 dL_law_177 (lv_at hl 6 rfl) ?_
          refine lv_iconst (v := (2 : Int32)) B.1.1 B.1.2.1 dL_law_179 (by decide) ?_
          refine lv_iadd B.1.1 B.1.2.1 dL_law_180 ?_
          obtain ⟨hin9, hw⟩ := hw
          refine va_sld B.1.1 B.1.2.1 hX hbl hbA h.2 hin9 dL_law_181 ?_
          refine lv_aload_n B.1.1 B.1.2.1 dL_law_182 rfl (lv_at hl 1 rfl) ?_
          refine lv_iload B.1.1 B.1.2.1 dL_law_183 (lv_at hl 6 rfl) ?_
          refine lv_iconst (v := (3 : Int32)) B.1.1 B.1.2.1 dL_law_185 (by decide) ?_
          refine lv_iadd B.1.1 B.1.2.1 dL_law_186 ?_
          obtain ⟨hin9, hw⟩ := hw
          refine va_sld B.1.1 B.1.2.1 hX hbl hbA h.2 hin9 dL_law_187 ?_
          refine lv_aload_n B.1.1 B.1.2.1 dL_law_188 rfl (lv_at hl 1 rfl) ?_
          refine lv_iload B.1.1 B.1.2.1 dL_law_189 (lv_at hl 6 rfl) ?_
          refine lv_iconst (v := (4 : Int32)) B.1.1 B.1.2.1 dL_law_191 (by decide) ?_
          refine lv_iadd B.1.1 B.1.2.1 dL_law_192 ?_
          obtain ⟨hin9, hw⟩ := hw
          refine va_sld B.1.1 B.1.2.1 hX hbl hbA h.2 hin9 dL_law_193 ?_
          refine lv_aload_n B.1.1 B.1.2.1 dL_law_194 rfl (lv_at hl 1 rfl) ?_
          refine lv_iload B.1.1 B.1.2.1 dL_law_195 (lv_at hl 6 rfl) ?_
          refine lv_iconst (v := (5 : Int32)) B.1.1 B.1.2.1 dL_law_197 (by decide) ?_
          refine lv_iadd B.1.1 B.1.2.1 dL_law_198 ?_
          obtain ⟨hin9, hw⟩ := hw
          refine va_sld B.1.1 B.1.2.1 hX hbl hbA h.2 hin9 dL_law_199 ?_
          obtain ⟨hok, hw⟩ := hw
          refine q_callIV B h (met_X5_begin l c2 (xs (m5 + (1 : Int32)).toNatClampNeg) (xs (m5 + (2 : Int32)).toNatClampNeg) (xs (m5 + (3 : Int32)).toNatClampNeg) (xs (m5 + (4 : Int32)).toNatClampNeg) (xs (m5 + (5 : Int32)).toNatClampNeg)) (CB B 5 kC_X5_begin kI_RX5 kM_RL_85 hd_X5_begin ⟨Nat.le_of_ble_eq_true rfl, Nat.le_of_ble_eq_true rfl⟩) kO_X5_begin kV_X5_begin (ci := 5) rfl (by decide) hok.1 hok.2 (rest := []) rfl rfl hl.1 (Nat.le_of_ble_eq_true rfl) dL_law_200 ⟨(by show _ ≤ 601024; omega), (by show _ ≤ 7293034; omega)⟩ hw (fun r2 S8 H locs hw9 h9 => ?_)
          replace hw := hw9
          clear hw9
          replace h := h9
          clear h9
          refine lv_istore (i := 7) (lv' := [(7, .int r2), (6, .int r1), (0, .ref b), (1, .ref c1), (2, .ref c2), (3, .ref c3), (4, .ref c4), (5, .int m5)]) B.1.1 B.1.2.1 dL_law_203 hl (by decide) rfl (fun ls hl9 => ?_)
          replace hl := hl9
          clear hl9
          refine lv_aload_n B.1.1 B.1.2.1 dL_law_205 rfl (lv_at hl 4 rfl) ?_
          obtain ⟨hok, hw⟩ := hw
          refine q_callIV B h (met_X5_thrown l c2) (CB B 0 kC_X5_thrown kI_RX5 kM_RL_86 hd_X5_thrown ⟨Nat.le_of_ble_eq_true rfl, Nat.le_of_ble_eq_true rfl⟩) kO_X5_thrown kV_X5_thrown (ci := 5) rfl (by decide) hok.1 hok.2 (rest := []) rfl rfl hl.1 (Nat.le_of_ble_eq_true rfl) dL_law_206 ⟨(by show _ ≤ 601024; omega), (by show _ ≤ 7293034; omega)⟩ hw (fun r3 S9 H locs hw9 h9 => ?_)
          replace hw := hw9
          clear hw9
          replace h := h9
          clear h9
          refine lv_iload B.1.1 B.1.2.1 dL_law_209 (lv_at hl 1 rfl) ?_
          refine lv_icmp_eq (tgt := 216) B.1.1 B.1.2.1 dL_law_211 (by decide) (fun hc => ?_) (fun hc => ?_)
          · replace hw := hw.1 hc
            refine lv_iload B.1.1 B.1.2.1 dL_law_216 (lv_at hl 1 rfl) ?_
            refine lv_if_ne (tgt := 233) B.1.1 B.1.2.1 dL_law_218 (by decide) (fun hc => ?_) (fun hc => ?_)
            · replace hw := hw.1 hc
              refine lv_goto (tgt := 1442) B.1.1 B.1.2.1 dL_law_233 (by decide) ?_
              refine lv_iinc (i := 5) (v := (m5 + (6 : Int32))) (lv' := [(5, .int (m5 + (6 : Int32))), (7, .int r2), (6, .int r1), (0, .ref b), (1, .ref c1), (2, .ref c2), (3, .ref c3), (4, .ref c4)]) B.1.1 B.1.2.1 dL_law_1442 hl (k := 7) rfl rfl (by decide) rfl (fun ls hl9 => ?_)
              replace hl := hl9
              clear hl9
              refine lv_goto (tgt := 28) B.1.1 B.1.2.1 dL_law_1445 (by decide) ?_
              exact ih (m5 + (6 : Int32)) _ _ _ ls _ _ (by omega) (by omega) h (lv_sub hl [3, 4, 5, 6, 7, 0] rfl) hw hk
            · replace hw := hw.2 hc
              refine lv_aload_n B.1.1 B.1.2.1 dL_law_221 rfl (lv_at hl 5 rfl) ?_
              refine lv_iconst (v := (0 : Int32)) B.1.1 B.1.2.1 dL_law_222 (by decide) ?_
              obtain ⟨hok, hin9, hw⟩ := hw
              refine q_lald B h dL_law_223 hok.1 hok.2 hin9 ?_
              refine lv_iload B.1.1 B.1.2.1 dL_law_224 (lv_at hl 0 rfl) ?_
              refine lv_i2l B.1.1 B.1.2.1 dL_law_226 rfl ?_
              refine W.lcmp B.1.1 B.1.2.1 dL_law_227 ?_
              refine lv_if_eq (tgt := 233) B.1.1 B.1.2.1 dL_law_228 (by decide) (fun hc => ?_) (fun hc => ?_)
              · replace hw := hw.1 hc
                refine lv_goto (tgt := 1442) B.1.1 B.1.2.1 dL_law_233 (by decide) ?_
                refine lv_iinc (i := 5) (v := (m5 + (6 : Int32))) (lv' := [(5, .int (m5 + (6 : Int32))), (7, .int r2), (6, .int r1), (0, .ref b), (1, .ref c1), (2, .ref c2), (3, .ref c3), (4, .ref c4)]) B.1.1 B.1.2.1 dL_law_1442 hl (k := 7) rfl rfl (by decide) rfl (fun ls hl9 => ?_)
                replace hl := hl9
                clear hl9
                refine lv_goto (tgt := 28) B.1.1 B.1.2.1 dL_law_1445 (by decide) ?_
                exact ih (m5 + (6 : Int32)) _ _ _ ls _ _ (by omega) (by omega) h (lv_sub hl [3, 4, 5, 6, 7, 0] rfl) hw hk
              · replace hw := hw.2 hc
                refine lv_iconst (v := (0 : Int32)) B.1.1 B.1.2.1 dL_law_231 (by decide) ?_
                exact False.elim hw
          · replace hw := hw.2 hc
            refine lv_iconst (v := (0 : Int32)) B.1.1 B.1.2.1 dL_law_214 (by decide) ?_
            exact False.elim hw
        by_cases hk1 : xx = (1 : Int32)
        · replace hw := hw.2.1 hk1
          rw [hk1]
          refine lv_tableIn (off := 191) (tgt := 236) B.1.1 B.1.2.1 dL_law_45 (by decide) (by decide) (by decide) (by decide) ?_
          refine lv_aload_n B.1.1 B.1.2.1 dL_law_236 rfl (lv_at hl 1 rfl) ?_
          refine lv_aload_n B.1.1 B.1.2.1 dL_law_237 rfl (lv_at hl 0 rfl) ?_
          refine lv_iload B.1.1 B.1.2.1 dL_law_238 (lv_at hl 5 rfl) ?_
          refine lv_iconst (v := (1 : Int32)) B.1.1 B.1.2.1 dL_law_240 (by decide) ?_
          refine lv_iadd B.1.1 B.1.2.1 dL_law_241 ?_
          obtain ⟨hin9, hw⟩ := hw
          refine va_sld B.1.1 B.1.2.1 hX hbl hbA h.2 hin9 dL_law_242 ?_
          refine lv_aload_n B.1.1 B.1.2.1 dL_law_243 rfl (lv_at hl 0 rfl) ?_
          refine lv_iload B.1.1 B.1.2.1 dL_law_244 (lv_at hl 5 rfl) ?_
          refine lv_iconst (v := (2 : Int32)) B.1.1 B.1.2.1 dL_law_246 (by decide) ?_
          refine lv_iadd B.1.1 B.1.2.1 dL_law_247 ?_
          obtain ⟨hin9, hw⟩ := hw
          refine va_sld B.1.1 B.1.2.1 hX hbl hbA h.2 hin9 dL_law_248 ?_
          refine lv_aload_n B.1.1 B.1.2.1 dL_law_249 rfl (lv_at hl 0 rfl) ?_
          refine lv_iload B.1.1 B.1.2.1 dL_law_250 (lv_at hl 5 rfl) ?_
          refine lv_iconst (v := (3 : Int32)) B.1.1 B.1.2.1 dL_law_252 (by decide) ?_
          refine lv_iadd B.1.1 B.1.2.1 dL_law_253 ?_
          obtain ⟨hin9, hw⟩ := hw
          refine va_sld B.1.1 B.1.2.1 hX hbl hbA h.2 hin9 dL_law_254 ?_
          refine lv_aload_n B.1.1 B.1.2.1 dL_law_255 rfl (lv_at hl 0 rfl) ?_
          refine lv_iload B.1.1 B.1.2.1 dL_law_256 (lv_at hl 5 rfl) ?_
          refine lv_iconst (v := (4 : Int32)) B.1.1 B.1.2.1 dL_law_258 (by decide) ?_
          refine lv_iadd B.1.1 B.1.2.1 dL_law_259 ?_
          obtain ⟨hin9, hw⟩ := hw
          refine va_sld B.1.1 B.1.2.1 hX hbl hbA h.2 hin9 dL_law_260 ?_
          refine lv_aload_n B.1.1 B.1.2.1 dL_law_261 rfl (lv_at hl 0 rfl) ?_
          refine lv_iload B.1.1 B.1.2.1 dL_law_262 (lv_at hl 5 rfl) ?_
          refine lv_iconst (v := (5 : Int32)) B.1.1 B.1.2.1 dL_law_264 (by decide) ?_
          refine lv_iadd B.1.1 B.1.2.1 dL_law_265 ?_
          obtain ⟨hin9, hw⟩ := hw
          refine va_sld B.1.1 B.1.2.1 hX hbl hbA h.2 hin9 dL_law_266 ?_
          refine lv_aload_n B.1.1 B.1.2.1 dL_law_267 rfl (lv_at hl 3 rfl) ?_
          refine q_callH B h (met_L_fill l hst (some c1) (xs (m5 + (1 : Int32)).toNatClampNeg) (xs (m5 + (2 : Int32)).toNatClampNeg) (xs (m5 + (3 : Int32)).toNatClampNeg) (xs (m5 + (4 : Int32)).toNatClampNeg) (xs (m5 + (5 : Int32)).toNatClampNeg) (some c3)) (CSW B 7 kC_L_fill kI_RL kM_RL_90 kS_L_fill hd_L_fill ⟨Nat.le_of_ble_eq_true rfl, Nat.le_of_ble_eq_true rfl⟩) (rest := []) rfl rfl hl.1 (Nat.le_of_ble_eq_true rfl) dL_law_268 ⟨(by show _ ≤ 601024; omega), (by show _ ≤ 7293034; omega)⟩ hw (fun r4 S10 H locs hw9 h9 => ?_)
          replace hw := hw9
          clear hw9
          replace h := h9
          clear h9
          refine lv_istore (i := 6) (lv' := [(6, .int r4), (0, .ref b), (1, .ref c1), (2, .ref c2), (3, .ref c3), (4, .ref c4), (5, .int m5)]) B.1.1 B.1.2.1 dL_law_271 hl (by decide) rfl (fun ls hl9 => ?_)
          replace hl := hl9
          clear hl9
          refine lv_aload_n B.1.1 B.1.2.1 dL_law_273 rfl (lv_at hl 3 rfl) ?_
          refine lv_aload_n B.1.1 B.1.2.1 dL_law_274 rfl (lv_at hl 1 rfl) ?_
          refine lv_iload B.1.1 B.1.2.1 dL_law_275 (lv_at hl 6 rfl) ?_
          refine lv_iconst (v := (1 : Int32)) B.1.1 B.1.2.1 dL_law_277 (by decide) ?_
          refine lv_iadd B.1.1 B.1.2.1 dL_law_278 ?_
          obtain ⟨hin9, hw⟩ := hw
          refine va_sld B.1.1 B.1.2.1 hX hbl hbA h.2 hin9 dL_law_279 ?_
          refine lv_aload_n B.1.1 B.1.2.1 dL_law_280 rfl (lv_at hl 1 rfl) ?_
          refine lv_iload B.1.1 B.1.2.1 dL_law_281 (lv_at hl 6 rfl) ?_
          refine lv_iconst (v := (2 : Int32)) B.1.1 B.1.2.1 dL_law_283 (by decide) ?_
          refine lv_iadd B.1.1 B.1.2.1 dL_law_284 ?_
          obtain ⟨hin9, hw⟩ := hw
          refine va_sld B.1.1 B.1.2.1 hX hbl hbA h.2 hin9 dL_law_285 ?_
          refine lv_aload_n B.1.1 B.1.2.1 dL_law_286 rfl (lv_at hl 1 rfl) ?_
          refine lv_iload B.1.1 B.1.2.1 dL_law_287 (lv_at hl 6 rfl) ?_
          refine lv_iconst (v := (3 : Int32)) B.1.1 B.1.2.1 dL_law_289 (by decide) ?_
          refine lv_iadd B.1.1 B.1.2.1 dL_law_290 ?_
          obtain ⟨hin9, hw⟩ := hw
          refine va_sld B.1.1 B.1.2.1 hX hbl hbA h.2 hin9 dL_law_291 ?_
          refine lv_aload_n B.1.1 B.1.2.1 dL_law_292 rfl (lv_at hl 1 rfl) ?_
          refine lv_iload B.1.1 B.1.2.1 dL_law_293 (lv_at hl 6 rfl) ?_
          refine lv_iconst (v := (4 : Int32)) B.1.1 B.1.2.1 dL_law_295 (by decide) ?_
          refine lv_iadd B.1.1 B.1.2.1 dL_law_296 ?_
          obtain ⟨hin9, hw⟩ := hw
          refine va_sld B.1.1 B.1.2.1 hX hbl hbA h.2 hin9 dL_law_297 ?_
          refine lv_aload_n B.1.1 B.1.2.1 dL_law_298 rfl (lv_at hl 1 rfl) ?_
          refine lv_iload B.1.1 B.1.2.1 dL_law_299 (lv_at hl 6 rfl) ?_
          refine lv_iconst (v := (5 : Int32)) B.1.1 B.1.2.1 dL_law_301 (by decide) ?_
          refine lv_iadd B.1.1 B.1.2.1 dL_law_302 ?_
          obtain ⟨hin9, hw⟩ := hw
          refine va_sld B.1.1 B.1.2.1 hX hbl hbA h.2 hin9 dL_law_303 ?_
          obtain ⟨hok, hw⟩ := hw
          refine q_callIV B h (met_X5_fill l c2 (xs (m5 + (1 : Int32)).toNatClampNeg) (xs (m5 + (2 : Int32)).toNatClampNeg) (xs (m5 + (3 : Int32)).toNatClampNeg) (xs (m5 + (4 : Int32)).toNatClampNeg) (xs (m5 + (5 : Int32)).toNatClampNeg)) (CB B 5 kC_X5_fill kI_RX5 kM_RL_92 hd_X5_fill ⟨Nat.le_of_ble_eq_true rfl, Nat.le_of_ble_eq_true rfl⟩) kO_X5_fill kV_X5_fill (ci := 5) rfl (by decide) hok.1 hok.2 (rest := []) rfl rfl hl.1 (Nat.le_of_ble_eq_true rfl) dL_law_304 ⟨(by show _ ≤ 601024; omega), (by show _ ≤ 7293034; omega)⟩ hw (fun r5 S11 H locs hw9 h9 => ?_)
          replace hw := hw9
          clear hw9
          replace h := h9
          clear h9
          refine lv_istore (i := 7) (lv' := [(7, .int r5), (6, .int r4), (0, .ref b), (1, .ref c1), (2, .ref c2), (3, .ref c3), (4, .ref c4), (5, .int m5)]) B.1.1 B.1.2.1 dL_law_307 hl (by decide) rfl (fun ls hl9 => ?_)
          replace hl := hl9
          clear hl9
          refine lv_aload_n B.1.1 B.1.2.1 dL_law_309 rfl (lv_at hl 4 rfl) ?_
          obtain ⟨hok, hw⟩ := hw
          refine q_callIV B h (met_X5_thrown l c2) (CB B 0 kC_X5_thrown kI_RX5 kM_RL_86 hd_X5_thrown ⟨Nat.le_of_ble_eq_true rfl, Nat.le_of_ble_eq_true rfl⟩) kO_X5_thrown kV_X5_thrown (ci := 5) rfl (by decide) hok.1 hok.2 (rest := []) rfl rfl hl.1 (Nat.le_of_ble_eq_true rfl) dL_law_310 ⟨(by show _ ≤ 601024; omega), (by show _ ≤ 7293034; omega)⟩ hw (fun r6 S12 H locs hw9 h9 => ?_)
          replace hw := hw9
          clear hw9
          replace h := h9
          clear h9
          refine lv_iload B.1.1 B.1.2.1 dL_law_313 (lv_at hl 1 rfl) ?_
          refine lv_icmp_eq (tgt := 320) B.1.1 B.1.2.1 dL_law_315 (by decide) (fun hc => ?_) (fun hc => ?_)
          · replace hw := hw.1 hc
            refine lv_iload B.1.1 B.1.2.1 dL_law_320 (lv_at hl 1 rfl) ?_
            refine lv_if_ne (tgt := 337) B.1.1 B.1.2.1 dL_law_322 (by decide) (fun hc => ?_) (fun hc => ?_)
            · replace hw := hw.1 hc
              refine lv_goto (tgt := 1442) B.1.1 B.1.2.1 dL_law_337 (by decide) ?_
              refine lv_iinc (i := 5) (v := (m5 + (6 : Int32))) (lv' := [(5, .int (m5 + (6 : Int32))), (7, .int r5), (6, .int r4), (0, .ref b), (1, .ref c1), (2, .ref c2), (3, .ref c3), (4, .ref c4)]) B.1.1 B.1.2.1 dL_law_1442 hl (k := 7) rfl rfl (by decide) rfl (fun ls hl9 => ?_)
              replace hl := hl9
              clear hl9
              refine lv_goto (tgt := 28) B.1.1 B.1.2.1 dL_law_1445 (by decide) ?_
              exact ih (m5 + (6 : Int32)) _ _ _ ls _ _ (by omega) (by omega) h (lv_sub hl [3, 4, 5, 6, 7, 0] rfl) hw hk
            · replace hw := hw.2 hc
              refine lv_aload_n B.1.1 B.1.2.1 dL_law_325 rfl (lv_at hl 5 rfl) ?_
              refine lv_iconst (v := (0 : Int32)) B.1.1 B.1.2.1 dL_law_326 (by decide) ?_
              obtain ⟨hok, hin9, hw⟩ := hw
              refine q_lald B h dL_law_327 hok.1 hok.2 hin9 ?_
              refine lv_iload B.1.1 B.1.2.1 dL_law_328 (lv_at hl 0 rfl) ?_
              refine lv_i2l B.1.1 B.1.2.1 dL_law_330 rfl ?_
              refine W.lcmp B.1.1 B.1.2.1 dL_law_331 ?_
              refine lv_if_eq (tgt := 337) B.1.1 B.1.2.1 dL_law_332 (by decide) (fun hc => ?_) (fun hc => ?_)
              · replace hw := hw.1 hc
                refine lv_goto (tgt := 1442) B.1.1 B.1.2.1 dL_law_337 (by decide) ?_
                refine lv_iinc (i := 5) (v := (m5 + (6 : Int32))) (lv' := [(5, .int (m5 + (6 : Int32))), (7, .int r5), (6, .int r4), (0, .ref b), (1, .ref c1), (2, .ref c2), (3, .ref c3), (4, .ref c4)]) B.1.1 B.1.2.1 dL_law_1442 hl (k := 7) rfl rfl (by decide) rfl (fun ls hl9 => ?_)
                replace hl := hl9
                clear hl9
                refine lv_goto (tgt := 28) B.1.1 B.1.2.1 dL_law_1445 (by decide) ?_
                exact ih (m5 + (6 : Int32)) _ _ _ ls _ _ (by omega) (by omega) h (lv_sub hl [3, 4, 5, 6, 7, 0] rfl) hw hk
              · replace hw := hw.2 hc
                refine lv_iconst (v := (0 : Int32)) B.1.1 B.1.2.1 dL_law_335 (by decide) ?_
                exact False.elim hw
          · replace hw := hw.2 hc
            refine lv_iconst (v := (0 : Int32)) B.1.1 B.1.2.1 dL_law_318 (by decide) ?_
            exact False.elim hw
        by_cases hk2 : xx = (2 : Int32)
        · replace hw := hw.2.2.1 hk2
          rw [hk2]
          refine lv_tableIn (off := 295) (tgt := 340) B.1.1 B.1.2.1 dL_law_45 (by decide) (by decide) (by decide) (by decide) ?_
          refine lv_aload_n B.1.1 B.1.2.1 dL_law_340 rfl (lv_at hl 1 rfl) ?_
          refine lv_aload_n B.1.1 B.1.2.1 dL_law_341 rfl (lv_at hl 0 rfl) ?_
          refine lv_iload B.1.1 B.1.2.1 dL_law_342 (lv_at hl 5 rfl) ?_
          refine lv_iconst (v := (1 : Int32)) B.1.1 B.1.2.1 dL_law_344 (by decide) ?_
          refine lv_iadd B.1.1 B.1.2.1 dL_law_345 ?_
          obtain ⟨hin9, hw⟩ := hw
          refine va_sld B.1.1 B.1.2.1 hX hbl hbA h.2 hin9 dL_law_346 ?_
          refine lv_aload_n B.1.1 B.1.2.1 dL_law_347 rfl (lv_at hl 3 rfl) ?_
          refine q_callH B h (met_L_strips l hst (some c1) (xs (m5 + (1 : Int32)).toNatClampNeg) (some c3)) (CSW B 3 kC_L_strips kI_RL kM_RL_93 kS_L_strips hd_L_strips ⟨Nat.le_of_ble_eq_true rfl, Nat.le_of_ble_eq_true rfl⟩) (rest := []) rfl rfl hl.1 (Nat.le_of_ble_eq_true rfl) dL_law_348 ⟨(by show _ ≤ 601024; omega), (by show _ ≤ 7293034; omega)⟩ hw (fun r7 S13 H locs hw9 h9 => ?_)
          replace hw := hw9
          clear hw9
          replace h := h9
          clear h9
          refine lv_istore (i := 6) (lv' := [(6, .int r7), (0, .ref b), (1, .ref c1), (2, .ref c2), (3, .ref c3), (4, .ref c4), (5, .int m5)]) B.1.1 B.1.2.1 dL_law_351 hl (by decide) rfl (fun ls hl9 => ?_)
          replace hl := hl9
          clear hl9
          refine lv_aload_n B.1.1 B.1.2.1 dL_law_353 rfl (lv_at hl 3 rfl) ?_
          refine lv_aload_n B.1.1 B.1.2.1 dL_law_354 rfl (lv_at hl 1 rfl) ?_
          refine lv_iload B.1.1 B.1.2.1 dL_law_355 (lv_at hl 6 rfl) ?_
          refine lv_iconst (v := (1 : Int32)) B.1.1 B.1.2.1 dL_law_357 (by decide) ?_
          refine lv_iadd B.1.1 B.1.2.1 dL_law_358 ?_
          obtain ⟨hin9, hw⟩ := hw
          refine va_sld B.1.1 B.1.2.1 hX hbl hbA h.2 hin9 dL_law_359 ?_
          obtain ⟨hok, hw⟩ := hw
          refine q_callIV B h (met_X5_strips l c2 (xs (m5 + (1 : Int32)).toNatClampNeg)) (CB B 1 kC_X5_strips kI_RX5 kM_RL_96 hd_X5_strips ⟨Nat.le_of_ble_eq_true rfl, Nat.le_of_ble_eq_true rfl⟩) kO_X5_strips kV_X5_strips (ci := 5) rfl (by decide) hok.1 hok.2 (rest := []) rfl rfl hl.1 (Nat.le_of_ble_eq_true rfl) dL_law_360 ⟨(by show _ ≤ 601024; omega), (by show _ ≤ 7293034; omega)⟩ hw (fun r8 S14 H locs hw9 h9 => ?_)
          replace hw := hw9
          clear hw9
          replace h := h9
          clear h9
          refine lv_istore (i := 7) (lv' := [(7, .int r8), (6, .int r7), (0, .ref b), (1, .ref c1), (2, .ref c2), (3, .ref c3), (4, .ref c4), (5, .int m5)]) B.1.1 B.1.2.1 dL_law_363 hl (by decide) rfl (fun ls hl9 => ?_)
          replace hl := hl9
          clear hl9
          refine lv_aload_n B.1.1 B.1.2.1 dL_law_365 rfl (lv_at hl 4 rfl) ?_
          obtain ⟨hok, hw⟩ := hw
          refine q_callIV B h (met_X5_thrown l c2) (CB B 0 kC_X5_thrown kI_RX5 kM_RL_86 hd_X5_thrown ⟨Nat.le_of_ble_eq_true rfl, Nat.le_of_ble_eq_true rfl⟩) kO_X5_thrown kV_X5_thrown (ci := 5) rfl (by decide) hok.1 hok.2 (rest := []) rfl rfl hl.1 (Nat.le_of_ble_eq_true rfl) dL_law_366 ⟨(by show _ ≤ 601024; omega), (by show _ ≤ 7293034; omega)⟩ hw (fun r9 S15 H locs hw9 h9 => ?_)
          replace hw := hw9
          clear hw9
          replace h := h9
          clear h9
          refine lv_iload B.1.1 B.1.2.1 dL_law_369 (lv_at hl 1 rfl) ?_
          refine lv_icmp_eq (tgt := 376) B.1.1 B.1.2.1 dL_law_371 (by decide) (fun hc => ?_) (fun hc => ?_)
          · replace hw := hw.1 hc
            refine lv_iload B.1.1 B.1.2.1 dL_law_376 (lv_at hl 1 rfl) ?_
            refine lv_if_ne (tgt := 393) B.1.1 B.1.2.1 dL_law_378 (by decide) (fun hc => ?_) (fun hc => ?_)
            · replace hw := hw.1 hc
              refine lv_goto (tgt := 1442) B.1.1 B.1.2.1 dL_law_393 (by decide) ?_
              refine lv_iinc (i := 5) (v := (m5 + (6 : Int32))) (lv' := [(5, .int (m5 + (6 : Int32))), (7, .int r8), (6, .int r7), (0, .ref b), (1, .ref c1), (2, .ref c2), (3, .ref c3), (4, .ref c4)]) B.1.1 B.1.2.1 dL_law_1442 hl (k := 7) rfl rfl (by decide) rfl (fun ls hl9 => ?_)
              replace hl := hl9
              clear hl9
              refine lv_goto (tgt := 28) B.1.1 B.1.2.1 dL_law_1445 (by decide) ?_
              exact ih (m5 + (6 : Int32)) _ _ _ ls _ _ (by omega) (by omega) h (lv_sub hl [3, 4, 5, 6, 7, 0] rfl) hw hk
            · replace hw := hw.2 hc
              refine lv_aload_n B.1.1 B.1.2.1 dL_law_381 rfl (lv_at hl 5 rfl) ?_
              refine lv_iconst (v := (0 : Int32)) B.1.1 B.1.2.1 dL_law_382 (by decide) ?_
              obtain ⟨hok, hin9, hw⟩ := hw
              refine q_lald B h dL_law_383 hok.1 hok.2 hin9 ?_
              refine lv_iload B.1.1 B.1.2.1 dL_law_384 (lv_at hl 0 rfl) ?_
              refine lv_i2l B.1.1 B.1.2.1 dL_law_386 rfl ?_
              refine W.lcmp B.1.1 B.1.2.1 dL_law_387 ?_
              refine lv_if_eq (tgt := 393) B.1.1 B.1.2.1 dL_law_388 (by decide) (fun hc => ?_) (fun hc => ?_)
              · replace hw := hw.1 hc
                refine lv_goto (tgt := 1442) B.1.1 B.1.2.1 dL_law_393 (by decide) ?_
                refine lv_iinc (i := 5) (v := (m5 + (6 : Int32))) (lv' := [(5, .int (m5 + (6 : Int32))), (7, .int r8), (6, .int r7), (0, .ref b), (1, .ref c1), (2, .ref c2), (3, .ref c3), (4, .ref c4)]) B.1.1 B.1.2.1 dL_law_1442 hl (k := 7) rfl rfl (by decide) rfl (fun ls hl9 => ?_)
                replace hl := hl9
                clear hl9
                refine lv_goto (tgt := 28) B.1.1 B.1.2.1 dL_law_1445 (by decide) ?_
                exact ih (m5 + (6 : Int32)) _ _ _ ls _ _ (by omega) (by omega) h (lv_sub hl [3, 4, 5, 6, 7, 0] rfl) hw hk
              · replace hw := hw.2 hc
                refine lv_iconst (v := (0 : Int32)) B.1.1 B.1.2.1 dL_law_391 (by decide) ?_
                exact False.elim hw
          · replace hw := hw.2 hc
            refine lv_iconst (v := (0 : Int32)) B.1.1 B.1.2.1 dL_law_374 (by decide) ?_
            exact False.elim hw
        by_cases hk3 : xx = (3 : Int32)
        · replace hw := hw.2.2.2.1 hk3
          rw [hk3]
          refine lv_tableIn (off := 351) (tgt := 396) B.1.1 B.1.2.1 dL_law_45 (by decide) (by decide) (by decide) (by decide) ?_
          refine lv_aload_n B.1.1 B.1.2.1 dL_law_396 rfl (lv_at hl 1 rfl) ?_
          refine lv_aload_n B.1.1 B.1.2.1 dL_law_397 rfl (lv_at hl 0 rfl) ?_
          refine lv_iload B.1.1 B.1.2.1 dL_law_398 (lv_at hl 5 rfl) ?_
          refine lv_iconst (v := (1 : Int32)) B.1.1 B.1.2.1 dL_law_400 (by decide) ?_
          refine lv_iadd B.1.1 B.1.2.1 dL_law_401 ?_
          obtain ⟨hin9, hw⟩ := hw
          refine va_sld B.1.1 B.1.2.1 hX hbl hbA h.2 hin9 dL_law_402 ?_
          refine lv_aload_n B.1.1 B.1.2.1 dL_law_403 rfl (lv_at hl 0 rfl) ?_
          refine lv_iload B.1.1 B.1.2.1 dL_law_404 (lv_at hl 5 rfl) ?_
          refine lv_iconst (v := (2 : Int32)) B.1.1 B.1.2.1 dL_law_406 (by decide) ?_
          refine lv_iadd B.1.1 B.1.2.1 dL_law_407 ?_
          obtain ⟨hin9, hw⟩ := hw
          refine va_sld B.1.1 B.1.2.1 hX hbl hbA h.2 hin9 dL_law_408 ?_
          refine lv_aload_n B.1.1 B.1.2.1 dL_law_409 rfl (lv_at hl 0 rfl) ?_
          refine lv_iload B.1.1 B.1.2.1 dL_law_410 (lv_at hl 5 rfl) ?_
          refine lv_iconst (v := (3 : Int32)) B.1.1 B.1.2.1 dL_law_412 (by decide) ?_
          refine lv_iadd B.1.1 B.1.2.1 dL_law_413 ?_
          obtain ⟨hin9, hw⟩ := hw
          refine va_sld B.1.1 B.1.2.1 hX hbl hbA h.2 hin9 dL_law_414 ?_
          refine lv_aload_n B.1.1 B.1.2.1 dL_law_415 rfl (lv_at hl 0 rfl) ?_
          refine lv_iload B.1.1 B.1.2.1 dL_law_416 (lv_at hl 5 rfl) ?_
          refine lv_iconst (v := (4 : Int32)) B.1.1 B.1.2.1 dL_law_418 (by decide) ?_
          refine lv_iadd B.1.1 B.1.2.1 dL_law_419 ?_
          obtain ⟨hin9, hw⟩ := hw
          refine va_sld B.1.1 B.1.2.1 hX hbl hbA h.2 hin9 dL_law_420 ?_
          refine lv_aload_n B.1.1 B.1.2.1 dL_law_421 rfl (lv_at hl 3 rfl) ?_
          refine q_callH B h (met_L_toLay l hst (some c1) (xs (m5 + (1 : Int32)).toNatClampNeg) (xs (m5 + (2 : Int32)).toNatClampNeg) (xs (m5 + (3 : Int32)).toNatClampNeg) (xs (m5 + (4 : Int32)).toNatClampNeg) (some c3)) (CSW B 6 kC_L_toLay kI_RL kM_RL_97 kS_L_toLay hd_L_toLay ⟨Nat.le_of_ble_eq_true rfl, Nat.le_of_ble_eq_true rfl⟩) (rest := []) rfl rfl hl.1 (Nat.le_of_ble_eq_true rfl) dL_law_422 ⟨(by show _ ≤ 601024; omega), (by show _ ≤ 7293034; omega)⟩ hw (fun r10 S16 H locs hw9 h9 => ?_)
          replace hw := hw9
          clear hw9
          replace h := h9
          clear h9
          refine lv_istore (i := 6) (lv' := [(6, .int r10), (0, .ref b), (1, .ref c1), (2, .ref c2), (3, .ref c3), (4, .ref c4), (5, .int m5)]) B.1.1 B.1.2.1 dL_law_425 hl (by decide) rfl (fun ls hl9 => ?_)
          replace hl := hl9
          clear hl9
          refine lv_aload_n B.1.1 B.1.2.1 dL_law_427 rfl (lv_at hl 3 rfl) ?_
          refine lv_aload_n B.1.1 B.1.2.1 dL_law_428 rfl (lv_at hl 1 rfl) ?_
          refine lv_iload B.1.1 B.1.2.1 dL_law_429 (lv_at hl 6 rfl) ?_
          refine lv_iconst (v := (1 : Int32)) B.1.1 B.1.2.1 dL_law_431 (by decide) ?_
          refine lv_iadd B.1.1 B.1.2.1 dL_law_432 ?_
          obtain ⟨hin9, hw⟩ := hw
          refine va_sld B.1.1 B.1.2.1 hX hbl hbA h.2 hin9 dL_law_433 ?_
          refine lv_aload_n B.1.1 B.1.2.1 dL_law_434 rfl (lv_at hl 1 rfl) ?_
          refine lv_iload B.1.1 B.1.2.1 dL_law_435 (lv_at hl 6 rfl) ?_
          refine lv_iconst (v := (2 : Int32)) B.1.1 B.1.2.1 dL_law_437 (by decide) ?_
          refine lv_iadd B.1.1 B.1.2.1 dL_law_438 ?_
          obtain ⟨hin9, hw⟩ := hw
          refine va_sld B.1.1 B.1.2.1 hX hbl hbA h.2 hin9 dL_law_439 ?_
          refine lv_aload_n B.1.1 B.1.2.1 dL_law_440 rfl (lv_at hl 1 rfl) ?_
          refine lv_iload B.1.1 B.1.2.1 dL_law_441 (lv_at hl 6 rfl) ?_
          refine lv_iconst (v := (3 : Int32)) B.1.1 B.1.2.1 dL_law_443 (by decide) ?_
          refine lv_iadd B.1.1 B.1.2.1 dL_law_444 ?_
          obtain ⟨hin9, hw⟩ := hw
          refine va_sld B.1.1 B.1.2.1 hX hbl hbA h.2 hin9 dL_law_445 ?_
          refine lv_aload_n B.1.1 B.1.2.1 dL_law_446 rfl (lv_at hl 1 rfl) ?_
          refine lv_iload B.1.1 B.1.2.1 dL_law_447 (lv_at hl 6 rfl) ?_
          refine lv_iconst (v := (4 : Int32)) B.1.1 B.1.2.1 dL_law_449 (by decide) ?_
          refine lv_iadd B.1.1 B.1.2.1 dL_law_450 ?_
          obtain ⟨hin9, hw⟩ := hw
          refine va_sld B.1.1 B.1.2.1 hX hbl hbA h.2 hin9 dL_law_451 ?_
          obtain ⟨hok, hw⟩ := hw
          refine q_callIV B h (met_X5_toLay l c2 (xs (m5 + (1 : Int32)).toNatClampNeg) (xs (m5 + (2 : Int32)).toNatClampNeg) (xs (m5 + (3 : Int32)).toNatClampNeg) (xs (m5 + (4 : Int32)).toNatClampNeg)) (CB B 4 kC_X5_toLay kI_RX5 kM_RL_100 hd_X5_toLay ⟨Nat.le_of_ble_eq_true rfl, Nat.le_of_ble_eq_true rfl⟩) kO_X5_toLay kV_X5_toLay (ci := 5) rfl (by decide) hok.1 hok.2 (rest := []) rfl rfl hl.1 (Nat.le_of_ble_eq_true rfl) dL_law_452 ⟨(by show _ ≤ 601024; omega), (by show _ ≤ 7293034; omega)⟩ hw (fun r11 S17 H locs hw9 h9 => ?_)
          replace hw := hw9
          clear hw9
          replace h := h9
          clear h9
          refine lv_istore (i := 7) (lv' := [(7, .int r11), (6, .int r10), (0, .ref b), (1, .ref c1), (2, .ref c2), (3, .ref c3), (4, .ref c4), (5, .int m5)]) B.1.1 B.1.2.1 dL_law_455 hl (by decide) rfl (fun ls hl9 => ?_)
          replace hl := hl9
          clear hl9
          refine lv_aload_n B.1.1 B.1.2.1 dL_law_457 rfl (lv_at hl 4 rfl) ?_
          obtain ⟨hok, hw⟩ := hw
          refine q_callIV B h (met_X5_thrown l c2) (CB B 0 kC_X5_thrown kI_RX5 kM_RL_86 hd_X5_thrown ⟨Nat.le_of_ble_eq_true rfl, Nat.le_of_ble_eq_true rfl⟩) kO_X5_thrown kV_X5_thrown (ci := 5) rfl (by decide) hok.1 hok.2 (rest := []) rfl rfl hl.1 (Nat.le_of_ble_eq_true rfl) dL_law_458 ⟨(by show _ ≤ 601024; omega), (by show _ ≤ 7293034; omega)⟩ hw (fun r12 S18 H locs hw9 h9 => ?_)
          replace hw := hw9
          clear hw9
          replace h := h9
          clear h9
          refine lv_iload B.1.1 B.1.2.1 dL_law_461 (lv_at hl 1 rfl) ?_
          refine lv_icmp_eq (tgt := 468) B.1.1 B.1.2.1 dL_law_463 (by decide) (fun hc => ?_) (fun hc => ?_)
          · replace hw := hw.1 hc
            refine lv_iload B.1.1 B.1.2.1 dL_law_468 (lv_at hl 1 rfl) ?_
            refine lv_if_ne (tgt := 485) B.1.1 B.1.2.1 dL_law_470 (by decide) (fun hc => ?_) (fun hc => ?_)
            · replace hw := hw.1 hc
              refine lv_goto (tgt := 1442) B.1.1 B.1.2.1 dL_law_485 (by decide) ?_
              refine lv_iinc (i := 5) (v := (m5 + (6 : Int32))) (lv' := [(5, .int (m5 + (6 : Int32))), (7, .int r11), (6, .int r10), (0, .ref b), (1, .ref c1), (2, .ref c2), (3, .ref c3), (4, .ref c4)]) B.1.1 B.1.2.1 dL_law_1442 hl (k := 7) rfl rfl (by decide) rfl (fun ls hl9 => ?_)
              replace hl := hl9
              clear hl9
              refine lv_goto (tgt := 28) B.1.1 B.1.2.1 dL_law_1445 (by decide) ?_
              exact ih (m5 + (6 : Int32)) _ _ _ ls _ _ (by omega) (by omega) h (lv_sub hl [3, 4, 5, 6, 7, 0] rfl) hw hk
            · replace hw := hw.2 hc
              refine lv_aload_n B.1.1 B.1.2.1 dL_law_473 rfl (lv_at hl 5 rfl) ?_
              refine lv_iconst (v := (0 : Int32)) B.1.1 B.1.2.1 dL_law_474 (by decide) ?_
              obtain ⟨hok, hin9, hw⟩ := hw
              refine q_lald B h dL_law_475 hok.1 hok.2 hin9 ?_
              refine lv_iload B.1.1 B.1.2.1 dL_law_476 (lv_at hl 0 rfl) ?_
              refine lv_i2l B.1.1 B.1.2.1 dL_law_478 rfl ?_
              refine W.lcmp B.1.1 B.1.2.1 dL_law_479 ?_
              refine lv_if_eq (tgt := 485) B.1.1 B.1.2.1 dL_law_480 (by decide) (fun hc => ?_) (fun hc => ?_)
              · replace hw := hw.1 hc
                refine lv_goto (tgt := 1442) B.1.1 B.1.2.1 dL_law_485 (by decide) ?_
                refine lv_iinc (i := 5) (v := (m5 + (6 : Int32))) (lv' := [(5, .int (m5 + (6 : Int32))), (7, .int r11), (6, .int r10), (0, .ref b), (1, .ref c1), (2, .ref c2), (3, .ref c3), (4, .ref c4)]) B.1.1 B.1.2.1 dL_law_1442 hl (k := 7) rfl rfl (by decide) rfl (fun ls hl9 => ?_)
                replace hl := hl9
                clear hl9
                refine lv_goto (tgt := 28) B.1.1 B.1.2.1 dL_law_1445 (by decide) ?_
                exact ih (m5 + (6 : Int32)) _ _ _ ls _ _ (by omega) (by omega) h (lv_sub hl [3, 4, 5, 6, 7, 0] rfl) hw hk
              · replace hw := hw.2 hc
                refine lv_iconst (v := (0 : Int32)) B.1.1 B.1.2.1 dL_law_483 (by decide) ?_
                exact False.elim hw
          · replace hw := hw.2 hc
            refine lv_iconst (v := (0 : Int32)) B.1.1 B.1.2.1 dL_law_466 (by decide) ?_
            exact False.elim hw
        by_cases hk4 : xx = (4 : Int32)
        · replace hw := hw.2.2.2.2.1 hk4
          rw [hk4]
          refine lv_tableIn (off := 443) (tgt := 488) B.1.1 B.1.2.1 dL_law_45 (by decide) (by decide) (by decide) (by decide) ?_
          refine lv_aload_n B.1.1 B.1.2.1 dL_law_488 rfl (lv_at hl 1 rfl) ?_
          refine lv_aload_n B.1.1 B.1.2.1 dL_law_489 rfl (lv_at hl 0 rfl) ?_
          refine lv_iload B.1.1 B.1.2.1 dL_law_490 (lv_at hl 5 rfl) ?_
          refine lv_iconst (v := (1 : Int32)) B.1.1 B.1.2.1 dL_law_492 (by decide) ?_
          refine lv_iadd B.1.1 B.1.2.1 dL_law_493 ?_
          obtain ⟨hin9, hw⟩ := hw
          refine va_sld B.1.1 B.1.2.1 hX hbl hbA h.2 hin9 dL_law_494 ?_
          refine lv_aload_n B.1.1 B.1.2.1 dL_law_495 rfl (lv_at hl 0 rfl) ?_
          refine lv_iload B.1.1 B.1.2.1 dL_law_496 (lv_at hl 5 rfl) ?_
          refine lv_iconst (v := (2 : Int32)) B.1.1 B.1.2.1 dL_law_498 (by decide) ?_
          refine lv_iadd B.1.1 B.1.2.1 dL_law_499 ?_
          obtain ⟨hin9, hw⟩ := hw
          refine va_sld B.1.1 B.1.2.1 hX hbl hbA h.2 hin9 dL_law_500 ?_
          refine lv_aload_n B.1.1 B.1.2.1 dL_law_501 rfl (lv_at hl 3 rfl) ?_
          refine q_callH B h (met_L_setGain l hst (some c1) (xs (m5 + (1 : Int32)).toNatClampNeg) (xs (m5 + (2 : Int32)).toNatClampNeg) (some c3)) (CSW B 4 kC_L_setGain kI_RL kM_RL_101 kS_L_setGain hd_L_setGain ⟨Nat.le_of_ble_eq_true rfl, Nat.le_of_ble_eq_true rfl⟩) (rest := []) rfl rfl hl.1 (Nat.le_of_ble_eq_true rfl) dL_law_502 ⟨(by show _ ≤ 601024; omega), (by show _ ≤ 7293034; omega)⟩ hw (fun r13 S19 H locs hw9 h9 => ?_)
          replace hw := hw9
          clear hw9
          replace h := h9
          clear h9
          refine lv_istore (i := 6) (lv' := [(6, .int r13), (0, .ref b), (1, .ref c1), (2, .ref c2), (3, .ref c3), (4, .ref c4), (5, .int m5)]) B.1.1 B.1.2.1 dL_law_505 hl (by decide) rfl (fun ls hl9 => ?_)
          replace hl := hl9
          clear hl9
          refine lv_aload_n B.1.1 B.1.2.1 dL_law_507 rfl (lv_at hl 3 rfl) ?_
          refine lv_aload_n B.1.1 B.1.2.1 dL_law_508 rfl (lv_at hl 1 rfl) ?_
          refine lv_iload B.1.1 B.1.2.1 dL_law_509 (lv_at hl 6 rfl) ?_
          refine lv_iconst (v := (1 : Int32)) B.1.1 B.1.2.1 dL_law_511 (by decide) ?_
          refine lv_iadd B.1.1 B.1.2.1 dL_law_512 ?_
          obtain ⟨hin9, hw⟩ := hw
          refine va_sld B.1.1 B.1.2.1 hX hbl hbA h.2 hin9 dL_law_513 ?_
          refine lv_aload_n B.1.1 B.1.2.1 dL_law_514 rfl (lv_at hl 1 rfl) ?_
          refine lv_iload B.1.1 B.1.2.1 dL_law_515 (lv_at hl 6 rfl) ?_
          refine lv_iconst (v := (2 : Int32)) B.1.1 B.1.2.1 dL_law_517 (by decide) ?_
          refine lv_iadd B.1.1 B.1.2.1 dL_law_518 ?_
          obtain ⟨hin9, hw⟩ := hw
          refine va_sld B.1.1 B.1.2.1 hX hbl hbA h.2 hin9 dL_law_519 ?_
          obtain ⟨hok, hw⟩ := hw
          refine q_callIV B h (met_X5_setGain l c2 (xs (m5 + (1 : Int32)).toNatClampNeg) (xs (m5 + (2 : Int32)).toNatClampNeg)) (CB B 2 kC_X5_setGain kI_RX5 kM_RL_104 hd_X5_setGain ⟨Nat.le_of_ble_eq_true rfl, Nat.le_of_ble_eq_true rfl⟩) kO_X5_setGain kV_X5_setGain (ci := 5) rfl (by decide) hok.1 hok.2 (rest := []) rfl rfl hl.1 (Nat.le_of_ble_eq_true rfl) dL_law_520 ⟨(by show _ ≤ 601024; omega), (by show _ ≤ 7293034; omega)⟩ hw (fun r14 S20 H locs hw9 h9 => ?_)
          replace hw := hw9
          clear hw9
          replace h := h9
          clear h9
          refine lv_istore (i := 7) (lv' := [(7, .int r14), (6, .int r13), (0, .ref b), (1, .ref c1), (2, .ref c2), (3, .ref c3), (4, .ref c4), (5, .int m5)]) B.1.1 B.1.2.1 dL_law_523 hl (by decide) rfl (fun ls hl9 => ?_)
          replace hl := hl9
          clear hl9
          refine lv_aload_n B.1.1 B.1.2.1 dL_law_525 rfl (lv_at hl 4 rfl) ?_
          obtain ⟨hok, hw⟩ := hw
          refine q_callIV B h (met_X5_thrown l c2) (CB B 0 kC_X5_thrown kI_RX5 kM_RL_86 hd_X5_thrown ⟨Nat.le_of_ble_eq_true rfl, Nat.le_of_ble_eq_true rfl⟩) kO_X5_thrown kV_X5_thrown (ci := 5) rfl (by decide) hok.1 hok.2 (rest := []) rfl rfl hl.1 (Nat.le_of_ble_eq_true rfl) dL_law_526 ⟨(by show _ ≤ 601024; omega), (by show _ ≤ 7293034; omega)⟩ hw (fun r15 S21 H locs hw9 h9 => ?_)
          replace hw := hw9
          clear hw9
          replace h := h9
          clear h9
          refine lv_iload B.1.1 B.1.2.1 dL_law_529 (lv_at hl 1 rfl) ?_
          refine lv_icmp_eq (tgt := 536) B.1.1 B.1.2.1 dL_law_531 (by decide) (fun hc => ?_) (fun hc => ?_)
          · replace hw := hw.1 hc
            refine lv_iload B.1.1 B.1.2.1 dL_law_536 (lv_at hl 1 rfl) ?_
            refine lv_if_ne (tgt := 553) B.1.1 B.1.2.1 dL_law_538 (by decide) (fun hc => ?_) (fun hc => ?_)
            · replace hw := hw.1 hc
              refine lv_goto (tgt := 1442) B.1.1 B.1.2.1 dL_law_553 (by decide) ?_
              refine lv_iinc (i := 5) (v := (m5 + (6 : Int32))) (lv' := [(5, .int (m5 + (6 : Int32))), (7, .int r14), (6, .int r13), (0, .ref b), (1, .ref c1), (2, .ref c2), (3, .ref c3), (4, .ref c4)]) B.1.1 B.1.2.1 dL_law_1442 hl (k := 7) rfl rfl (by decide) rfl (fun ls hl9 => ?_)
              replace hl := hl9
              clear hl9
              refine lv_goto (tgt := 28) B.1.1 B.1.2.1 dL_law_1445 (by decide) ?_
              exact ih (m5 + (6 : Int32)) _ _ _ ls _ _ (by omega) (by omega) h (lv_sub hl [3, 4, 5, 6, 7, 0] rfl) hw hk
            · replace hw := hw.2 hc
              refine lv_aload_n B.1.1 B.1.2.1 dL_law_541 rfl (lv_at hl 5 rfl) ?_
              refine lv_iconst (v := (0 : Int32)) B.1.1 B.1.2.1 dL_law_542 (by decide) ?_
              obtain ⟨hok, hin9, hw⟩ := hw
              refine q_lald B h dL_law_543 hok.1 hok.2 hin9 ?_
              refine lv_iload B.1.1 B.1.2.1 dL_law_544 (lv_at hl 0 rfl) ?_
              refine lv_i2l B.1.1 B.1.2.1 dL_law_546 rfl ?_
              refine W.lcmp B.1.1 B.1.2.1 dL_law_547 ?_
              refine lv_if_eq (tgt := 553) B.1.1 B.1.2.1 dL_law_548 (by decide) (fun hc => ?_) (fun hc => ?_)
              · replace hw := hw.1 hc
                refine lv_goto (tgt := 1442) B.1.1 B.1.2.1 dL_law_553 (by decide) ?_
                refine lv_iinc (i := 5) (v := (m5 + (6 : Int32))) (lv' := [(5, .int (m5 + (6 : Int32))), (7, .int r14), (6, .int r13), (0, .ref b), (1, .ref c1), (2, .ref c2), (3, .ref c3), (4, .ref c4)]) B.1.1 B.1.2.1 dL_law_1442 hl (k := 7) rfl rfl (by decide) rfl (fun ls hl9 => ?_)
                replace hl := hl9
                clear hl9
                refine lv_goto (tgt := 28) B.1.1 B.1.2.1 dL_law_1445 (by decide) ?_
                exact ih (m5 + (6 : Int32)) _ _ _ ls _ _ (by omega) (by omega) h (lv_sub hl [3, 4, 5, 6, 7, 0] rfl) hw hk
              · replace hw := hw.2 hc
                refine lv_iconst (v := (0 : Int32)) B.1.1 B.1.2.1 dL_law_551 (by decide) ?_
                exact False.elim hw
          · replace hw := hw.2 hc
            refine lv_iconst (v := (0 : Int32)) B.1.1 B.1.2.1 dL_law_534 (by decide) ?_
            exact False.elim hw
        by_cases hk5 : xx = (5 : Int32)
        · replace hw := hw.2.2.2.2.2.1 hk5
          rw [hk5]
          refine lv_tableIn (off := 511) (tgt := 556) B.1.1 B.1.2.1 dL_law_45 (by decide) (by decide) (by decide) (by decide) ?_
          refine lv_aload_n B.1.1 B.1.2.1 dL_law_556 rfl (lv_at hl 1 rfl) ?_
          refine lv_aload_n B.1.1 B.1.2.1 dL_law_557 rfl (lv_at hl 0 rfl) ?_
          refine lv_iload B.1.1 B.1.2.1 dL_law_558 (lv_at hl 5 rfl) ?_
          refine lv_iconst (v := (1 : Int32)) B.1.1 B.1.2.1 dL_law_560 (by decide) ?_
          refine lv_iadd B.1.1 B.1.2.1 dL_law_561 ?_
          obtain ⟨hin9, hw⟩ := hw
          refine va_sld B.1.1 B.1.2.1 hX hbl hbA h.2 hin9 dL_law_562 ?_
          refine lv_aload_n B.1.1 B.1.2.1 dL_law_563 rfl (lv_at hl 3 rfl) ?_
          refine q_callH B h (met_L_match l hst (some c1) (xs (m5 + (1 : Int32)).toNatClampNeg) (some c3)) (CSW B 3 kC_L_match kI_RL kM_RL_105 kS_L_match hd_L_match ⟨Nat.le_of_ble_eq_true rfl, Nat.le_of_ble_eq_true rfl⟩) (rest := []) rfl rfl hl.1 (Nat.le_of_ble_eq_true rfl) dL_law_564 ⟨(by show _ ≤ 601024; omega), (by show _ ≤ 7293034; omega)⟩ hw (fun r16 S22 H locs hw9 h9 => ?_)
          replace hw := hw9
          clear hw9
          replace h := h9
          clear h9
          refine lv_istore (i := 6) (lv' := [(6, .int r16), (0, .ref b), (1, .ref c1), (2, .ref c2), (3, .ref c3), (4, .ref c4), (5, .int m5)]) B.1.1 B.1.2.1 dL_law_567 hl (by decide) rfl (fun ls hl9 => ?_)
          replace hl := hl9
          clear hl9
          refine lv_aload_n B.1.1 B.1.2.1 dL_law_569 rfl (lv_at hl 3 rfl) ?_
          refine lv_aload_n B.1.1 B.1.2.1 dL_law_570 rfl (lv_at hl 1 rfl) ?_
          refine lv_iload B.1.1 B.1.2.1 dL_law_571 (lv_at hl 6 rfl) ?_
          refine lv_iconst (v := (1 : Int32)) B.1.1 B.1.2.1 dL_law_573 (by decide) ?_
          refine lv_iadd B.1.1 B.1.2.1 dL_law_574 ?_
          obtain ⟨hin9, hw⟩ := hw
          refine va_sld B.1.1 B.1.2.1 hX hbl hbA h.2 hin9 dL_law_575 ?_
          obtain ⟨hok, hw⟩ := hw
          refine q_callIV B h (met_X5_match l c2 (xs (m5 + (1 : Int32)).toNatClampNeg)) (CB B 1 kC_X5_match kI_RX5 kM_RL_107 hd_X5_match ⟨Nat.le_of_ble_eq_true rfl, Nat.le_of_ble_eq_true rfl⟩) kO_X5_match kV_X5_match (ci := 5) rfl (by decide) hok.1 hok.2 (rest := []) rfl rfl hl.1 (Nat.le_of_ble_eq_true rfl) dL_law_576 ⟨(by show _ ≤ 601024; omega), (by show _ ≤ 7293034; omega)⟩ hw (fun r17 S23 H locs hw9 h9 => ?_)
          replace hw := hw9
          clear hw9
          replace h := h9
          clear h9
          refine lv_istore (i := 7) (lv' := [(7, .int r17), (6, .int r16), (0, .ref b), (1, .ref c1), (2, .ref c2), (3, .ref c3), (4, .ref c4), (5, .int m5)]) B.1.1 B.1.2.1 dL_law_579 hl (by decide) rfl (fun ls hl9 => ?_)
          replace hl := hl9
          clear hl9
          refine lv_aload_n B.1.1 B.1.2.1 dL_law_581 rfl (lv_at hl 4 rfl) ?_
          obtain ⟨hok, hw⟩ := hw
          refine q_callIV B h (met_X5_thrown l c2) (CB B 0 kC_X5_thrown kI_RX5 kM_RL_86 hd_X5_thrown ⟨Nat.le_of_ble_eq_true rfl, Nat.le_of_ble_eq_true rfl⟩) kO_X5_thrown kV_X5_thrown (ci := 5) rfl (by decide) hok.1 hok.2 (rest := []) rfl rfl hl.1 (Nat.le_of_ble_eq_true rfl) dL_law_582 ⟨(by show _ ≤ 601024; omega), (by show _ ≤ 7293034; omega)⟩ hw (fun r18 S24 H locs hw9 h9 => ?_)
          replace hw := hw9
          clear hw9
          replace h := h9
          clear h9
          refine lv_iload B.1.1 B.1.2.1 dL_law_585 (lv_at hl 1 rfl) ?_
          refine lv_icmp_eq (tgt := 592) B.1.1 B.1.2.1 dL_law_587 (by decide) (fun hc => ?_) (fun hc => ?_)
          · replace hw := hw.1 hc
            refine lv_iload B.1.1 B.1.2.1 dL_law_592 (lv_at hl 1 rfl) ?_
            refine lv_if_ne (tgt := 609) B.1.1 B.1.2.1 dL_law_594 (by decide) (fun hc => ?_) (fun hc => ?_)
            · replace hw := hw.1 hc
              refine lv_goto (tgt := 1442) B.1.1 B.1.2.1 dL_law_609 (by decide) ?_
              refine lv_iinc (i := 5) (v := (m5 + (6 : Int32))) (lv' := [(5, .int (m5 + (6 : Int32))), (7, .int r17), (6, .int r16), (0, .ref b), (1, .ref c1), (2, .ref c2), (3, .ref c3), (4, .ref c4)]) B.1.1 B.1.2.1 dL_law_1442 hl (k := 7) rfl rfl (by decide) rfl (fun ls hl9 => ?_)
              replace hl := hl9
              clear hl9
              refine lv_goto (tgt := 28) B.1.1 B.1.2.1 dL_law_1445 (by decide) ?_
              exact ih (m5 + (6 : Int32)) _ _ _ ls _ _ (by omega) (by omega) h (lv_sub hl [3, 4, 5, 6, 7, 0] rfl) hw hk
            · replace hw := hw.2 hc
              refine lv_aload_n B.1.1 B.1.2.1 dL_law_597 rfl (lv_at hl 5 rfl) ?_
              refine lv_iconst (v := (0 : Int32)) B.1.1 B.1.2.1 dL_law_598 (by decide) ?_
              obtain ⟨hok, hin9, hw⟩ := hw
              refine q_lald B h dL_law_599 hok.1 hok.2 hin9 ?_
              refine lv_iload B.1.1 B.1.2.1 dL_law_600 (lv_at hl 0 rfl) ?_
              refine lv_i2l B.1.1 B.1.2.1 dL_law_602 rfl ?_
              refine W.lcmp B.1.1 B.1.2.1 dL_law_603 ?_
              refine lv_if_eq (tgt := 609) B.1.1 B.1.2.1 dL_law_604 (by decide) (fun hc => ?_) (fun hc => ?_)
              · replace hw := hw.1 hc
                refine lv_goto (tgt := 1442) B.1.1 B.1.2.1 dL_law_609 (by decide) ?_
                refine lv_iinc (i := 5) (v := (m5 + (6 : Int32))) (lv' := [(5, .int (m5 + (6 : Int32))), (7, .int r17), (6, .int r16), (0, .ref b), (1, .ref c1), (2, .ref c2), (3, .ref c3), (4, .ref c4)]) B.1.1 B.1.2.1 dL_law_1442 hl (k := 7) rfl rfl (by decide) rfl (fun ls hl9 => ?_)
                replace hl := hl9
                clear hl9
                refine lv_goto (tgt := 28) B.1.1 B.1.2.1 dL_law_1445 (by decide) ?_
                exact ih (m5 + (6 : Int32)) _ _ _ ls _ _ (by omega) (by omega) h (lv_sub hl [3, 4, 5, 6, 7, 0] rfl) hw hk
              · replace hw := hw.2 hc
                refine lv_iconst (v := (0 : Int32)) B.1.1 B.1.2.1 dL_law_607 (by decide) ?_
                exact False.elim hw
          · replace hw := hw.2 hc
            refine lv_iconst (v := (0 : Int32)) B.1.1 B.1.2.1 dL_law_590 (by decide) ?_
            exact False.elim hw
        by_cases hk6 : xx = (6 : Int32)
        · replace hw := hw.2.2.2.2.2.2.1 hk6
          rw [hk6]
          refine lv_tableIn (off := 567) (tgt := 612) B.1.1 B.1.2.1 dL_law_45 (by decide) (by decide) (by decide) (by decide) ?_
          refine lv_aload_n B.1.1 B.1.2.1 dL_law_612 rfl (lv_at hl 1 rfl) ?_
          refine lv_aload_n B.1.1 B.1.2.1 dL_law_613 rfl (lv_at hl 0 rfl) ?_
          refine lv_iload B.1.1 B.1.2.1 dL_law_614 (lv_at hl 5 rfl) ?_
          refine lv_iconst (v := (1 : Int32)) B.1.1 B.1.2.1 dL_law_616 (by decide) ?_
          refine lv_iadd B.1.1 B.1.2.1 dL_law_617 ?_
          obtain ⟨hin9, hw⟩ := hw
          refine va_sld B.1.1 B.1.2.1 hX hbl hbA h.2 hin9 dL_law_618 ?_
          refine lv_aload_n B.1.1 B.1.2.1 dL_law_619 rfl (lv_at hl 0 rfl) ?_
          refine lv_iload B.1.1 B.1.2.1 dL_law_620 (lv_at hl 5 rfl) ?_
          refine lv_iconst (v := (2 : Int32)) B.1.1 B.1.2.1 dL_law_622 (by decide) ?_
          refine lv_iadd B.1.1 B.1.2.1 dL_law_623 ?_
          obtain ⟨hin9, hw⟩ := hw
          refine va_sld B.1.1 B.1.2.1 hX hbl hbA h.2 hin9 dL_law_624 ?_
          refine lv_aload_n B.1.1 B.1.2.1 dL_law_625 rfl (lv_at hl 3 rfl) ?_
          refine q_callH B h (met_L_block l hst (some c1) (xs (m5 + (1 : Int32)).toNatClampNeg) (xs (m5 + (2 : Int32)).toNatClampNeg) (some c3)) (CSW B 4 kC_L_block kI_RL kM_RL_108 kS_L_block hd_L_block ⟨Nat.le_of_ble_eq_true rfl, Nat.le_of_ble_eq_true rfl⟩) (rest := []) rfl rfl hl.1 (Nat.le_of_ble_eq_true rfl) dL_law_626 ⟨(by show _ ≤ 601024; omega), (by show _ ≤ 7293034; omega)⟩ hw (fun r19 S25 H locs hw9 h9 => ?_)
          replace hw := hw9
          clear hw9
          replace h := h9
          clear h9
          refine lv_istore (i := 6) (lv' := [(6, .int r19), (0, .ref b), (1, .ref c1), (2, .ref c2), (3, .ref c3), (4, .ref c4), (5, .int m5)]) B.1.1 B.1.2.1 dL_law_629 hl (by decide) rfl (fun ls hl9 => ?_)
          replace hl := hl9
          clear hl9
          refine lv_aload_n B.1.1 B.1.2.1 dL_law_631 rfl (lv_at hl 3 rfl) ?_
          refine lv_aload_n B.1.1 B.1.2.1 dL_law_632 rfl (lv_at hl 1 rfl) ?_
          refine lv_iload B.1.1 B.1.2.1 dL_law_633 (lv_at hl 6 rfl) ?_
          refine lv_iconst (v := (1 : Int32)) B.1.1 B.1.2.1 dL_law_635 (by decide) ?_
          refine lv_iadd B.1.1 B.1.2.1 dL_law_636 ?_
          obtain ⟨hin9, hw⟩ := hw
          refine va_sld B.1.1 B.1.2.1 hX hbl hbA h.2 hin9 dL_law_637 ?_
          refine lv_aload_n B.1.1 B.1.2.1 dL_law_638 rfl (lv_at hl 1 rfl) ?_
          refine lv_iload B.1.1 B.1.2.1 dL_law_639 (lv_at hl 6 rfl) ?_
          refine lv_iconst (v := (2 : Int32)) B.1.1 B.1.2.1 dL_law_641 (by decide) ?_
          refine lv_iadd B.1.1 B.1.2.1 dL_law_642 ?_
          obtain ⟨hin9, hw⟩ := hw
          refine va_sld B.1.1 B.1.2.1 hX hbl hbA h.2 hin9 dL_law_643 ?_
          obtain ⟨hok, hw⟩ := hw
          refine q_callIV B h (met_X5_block l c2 (xs (m5 + (1 : Int32)).toNatClampNeg) (xs (m5 + (2 : Int32)).toNatClampNeg)) (CB B 2 kC_X5_block kI_RX5 kM_RL_110 hd_X5_block ⟨Nat.le_of_ble_eq_true rfl, Nat.le_of_ble_eq_true rfl⟩) kO_X5_block kV_X5_block (ci := 5) rfl (by decide) hok.1 hok.2 (rest := []) rfl rfl hl.1 (Nat.le_of_ble_eq_true rfl) dL_law_644 ⟨(by show _ ≤ 601024; omega), (by show _ ≤ 7293034; omega)⟩ hw (fun r20 S26 H locs hw9 h9 => ?_)
          replace hw := hw9
          clear hw9
          replace h := h9
          clear h9
          refine lv_istore (i := 7) (lv' := [(7, .int r20), (6, .int r19), (0, .ref b), (1, .ref c1), (2, .ref c2), (3, .ref c3), (4, .ref c4), (5, .int m5)]) B.1.1 B.1.2.1 dL_law_647 hl (by decide) rfl (fun ls hl9 => ?_)
          replace hl := hl9
          clear hl9
          refine lv_aload_n B.1.1 B.1.2.1 dL_law_649 rfl (lv_at hl 4 rfl) ?_
          obtain ⟨hok, hw⟩ := hw
          refine q_callIV B h (met_X5_thrown l c2) (CB B 0 kC_X5_thrown kI_RX5 kM_RL_86 hd_X5_thrown ⟨Nat.le_of_ble_eq_true rfl, Nat.le_of_ble_eq_true rfl⟩) kO_X5_thrown kV_X5_thrown (ci := 5) rfl (by decide) hok.1 hok.2 (rest := []) rfl rfl hl.1 (Nat.le_of_ble_eq_true rfl) dL_law_650 ⟨(by show _ ≤ 601024; omega), (by show _ ≤ 7293034; omega)⟩ hw (fun r21 S27 H locs hw9 h9 => ?_)
          replace hw := hw9
          clear hw9
          replace h := h9
          clear h9
          refine lv_iload B.1.1 B.1.2.1 dL_law_653 (lv_at hl 1 rfl) ?_
          refine lv_icmp_eq (tgt := 660) B.1.1 B.1.2.1 dL_law_655 (by decide) (fun hc => ?_) (fun hc => ?_)
          · replace hw := hw.1 hc
            refine lv_iload B.1.1 B.1.2.1 dL_law_660 (lv_at hl 1 rfl) ?_
            refine lv_if_ne (tgt := 677) B.1.1 B.1.2.1 dL_law_662 (by decide) (fun hc => ?_) (fun hc => ?_)
            · replace hw := hw.1 hc
              refine lv_goto (tgt := 1442) B.1.1 B.1.2.1 dL_law_677 (by decide) ?_
              refine lv_iinc (i := 5) (v := (m5 + (6 : Int32))) (lv' := [(5, .int (m5 + (6 : Int32))), (7, .int r20), (6, .int r19), (0, .ref b), (1, .ref c1), (2, .ref c2), (3, .ref c3), (4, .ref c4)]) B.1.1 B.1.2.1 dL_law_1442 hl (k := 7) rfl rfl (by decide) rfl (fun ls hl9 => ?_)
              replace hl := hl9
              clear hl9
              refine lv_goto (tgt := 28) B.1.1 B.1.2.1 dL_law_1445 (by decide) ?_
              exact ih (m5 + (6 : Int32)) _ _ _ ls _ _ (by omega) (by omega) h (lv_sub hl [3, 4, 5, 6, 7, 0] rfl) hw hk
            · replace hw := hw.2 hc
              refine lv_aload_n B.1.1 B.1.2.1 dL_law_665 rfl (lv_at hl 5 rfl) ?_
              refine lv_iconst (v := (0 : Int32)) B.1.1 B.1.2.1 dL_law_666 (by decide) ?_
              obtain ⟨hok, hin9, hw⟩ := hw
              refine q_lald B h dL_law_667 hok.1 hok.2 hin9 ?_
              refine lv_iload B.1.1 B.1.2.1 dL_law_668 (lv_at hl 0 rfl) ?_
              refine lv_i2l B.1.1 B.1.2.1 dL_law_670 rfl ?_
              refine W.lcmp B.1.1 B.1.2.1 dL_law_671 ?_
              refine lv_if_eq (tgt := 677) B.1.1 B.1.2.1 dL_law_672 (by decide) (fun hc => ?_) (fun hc => ?_)
              · replace hw := hw.1 hc
                refine lv_goto (tgt := 1442) B.1.1 B.1.2.1 dL_law_677 (by decide) ?_
                refine lv_iinc (i := 5) (v := (m5 + (6 : Int32))) (lv' := [(5, .int (m5 + (6 : Int32))), (7, .int r20), (6, .int r19), (0, .ref b), (1, .ref c1), (2, .ref c2), (3, .ref c3), (4, .ref c4)]) B.1.1 B.1.2.1 dL_law_1442 hl (k := 7) rfl rfl (by decide) rfl (fun ls hl9 => ?_)
                replace hl := hl9
                clear hl9
                refine lv_goto (tgt := 28) B.1.1 B.1.2.1 dL_law_1445 (by decide) ?_
                exact ih (m5 + (6 : Int32)) _ _ _ ls _ _ (by omega) (by omega) h (lv_sub hl [3, 4, 5, 6, 7, 0] rfl) hw hk
              · replace hw := hw.2 hc
                refine lv_iconst (v := (0 : Int32)) B.1.1 B.1.2.1 dL_law_675 (by decide) ?_
                exact False.elim hw
          · replace hw := hw.2 hc
            refine lv_iconst (v := (0 : Int32)) B.1.1 B.1.2.1 dL_law_658 (by decide) ?_
            exact False.elim hw
        by_cases hk7 : xx = (7 : Int32)
        · replace hw := hw.2.2.2.2.2.2.2.1 hk7
          rw [hk7]
          refine lv_tableIn (off := 635) (tgt := 680) B.1.1 B.1.2.1 dL_law_45 (by decide) (by decide) (by decide) (by decide) ?_
          refine lv_aload_n B.1.1 B.1.2.1 dL_law_680 rfl (lv_at hl 1 rfl) ?_
          refine lv_aload_n B.1.1 B.1.2.1 dL_law_681 rfl (lv_at hl 0 rfl) ?_
          refine lv_iload B.1.1 B.1.2.1 dL_law_682 (lv_at hl 5 rfl) ?_
          refine lv_iconst (v := (1 : Int32)) B.1.1 B.1.2.1 dL_law_684 (by decide) ?_
          refine lv_iadd B.1.1 B.1.2.1 dL_law_685 ?_
          obtain ⟨hin9, hw⟩ := hw
          refine va_sld B.1.1 B.1.2.1 hX hbl hbA h.2 hin9 dL_law_686 ?_
          refine lv_aload_n B.1.1 B.1.2.1 dL_law_687 rfl (lv_at hl 3 rfl) ?_
          refine q_callH B h (met_L_clean l hst (some c1) (xs (m5 + (1 : Int32)).toNatClampNeg) (some c3)) (CSW B 3 kC_L_clean kI_RL kM_RL_111 kS_L_clean hd_L_clean ⟨Nat.le_of_ble_eq_true rfl, Nat.le_of_ble_eq_true rfl⟩) (rest := []) rfl rfl hl.1 (Nat.le_of_ble_eq_true rfl) dL_law_688 ⟨(by show _ ≤ 601024; omega), (by show _ ≤ 7293034; omega)⟩ hw (fun r22 S28 H locs hw9 h9 => ?_)
          replace hw := hw9
          clear hw9
          replace h := h9
          clear h9
          refine lv_istore (i := 6) (lv' := [(6, .int r22), (0, .ref b), (1, .ref c1), (2, .ref c2), (3, .ref c3), (4, .ref c4), (5, .int m5)]) B.1.1 B.1.2.1 dL_law_691 hl (by decide) rfl (fun ls hl9 => ?_)
          replace hl := hl9
          clear hl9
          refine lv_aload_n B.1.1 B.1.2.1 dL_law_693 rfl (lv_at hl 3 rfl) ?_
          refine lv_aload_n B.1.1 B.1.2.1 dL_law_694 rfl (lv_at hl 1 rfl) ?_
          refine lv_iload B.1.1 B.1.2.1 dL_law_695 (lv_at hl 6 rfl) ?_
          refine lv_iconst (v := (1 : Int32)) B.1.1 B.1.2.1 dL_law_697 (by decide) ?_
          refine lv_iadd B.1.1 B.1.2.1 dL_law_698 ?_
          obtain ⟨hin9, hw⟩ := hw
          refine va_sld B.1.1 B.1.2.1 hX hbl hbA h.2 hin9 dL_law_699 ?_
          obtain ⟨hok, hw⟩ := hw
          refine q_callIV B h (met_X5_clean l c2 (xs (m5 + (1 : Int32)).toNatClampNeg)) (CB B 1 kC_X5_clean kI_RX5 kM_RL_113 hd_X5_clean ⟨Nat.le_of_ble_eq_true rfl, Nat.le_of_ble_eq_true rfl⟩) kO_X5_clean kV_X5_clean (ci := 5) rfl (by decide) hok.1 hok.2 (rest := []) rfl rfl hl.1 (Nat.le_of_ble_eq_true rfl) dL_law_700 ⟨(by show _ ≤ 601024; omega), (by show _ ≤ 7293034; omega)⟩ hw (fun r23 S29 H locs hw9 h9 => ?_)
          replace hw := hw9
          clear hw9
          replace h := h9
          clear h9
          refine lv_istore (i := 7) (lv' := [(7, .int r23), (6, .int r22), (0, .ref b), (1, .ref c1), (2, .ref c2), (3, .ref c3), (4, .ref c4), (5, .int m5)]) B.1.1 B.1.2.1 dL_law_703 hl (by decide) rfl (fun ls hl9 => ?_)
          replace hl := hl9
          clear hl9
          refine lv_aload_n B.1.1 B.1.2.1 dL_law_705 rfl (lv_at hl 4 rfl) ?_
          obtain ⟨hok, hw⟩ := hw
          refine q_callIV B h (met_X5_thrown l c2) (CB B 0 kC_X5_thrown kI_RX5 kM_RL_86 hd_X5_thrown ⟨Nat.le_of_ble_eq_true rfl, Nat.le_of_ble_eq_true rfl⟩) kO_X5_thrown kV_X5_thrown (ci := 5) rfl (by decide) hok.1 hok.2 (rest := []) rfl rfl hl.1 (Nat.le_of_ble_eq_true rfl) dL_law_706 ⟨(by show _ ≤ 601024; omega), (by show _ ≤ 7293034; omega)⟩ hw (fun r24 S30 H locs hw9 h9 => ?_)
          replace hw := hw9
          clear hw9
          replace h := h9
          clear h9
          refine lv_iload B.1.1 B.1.2.1 dL_law_709 (lv_at hl 1 rfl) ?_
          refine lv_icmp_eq (tgt := 716) B.1.1 B.1.2.1 dL_law_711 (by decide) (fun hc => ?_) (fun hc => ?_)
          · replace hw := hw.1 hc
            refine lv_iload B.1.1 B.1.2.1 dL_law_716 (lv_at hl 1 rfl) ?_
            refine lv_if_ne (tgt := 733) B.1.1 B.1.2.1 dL_law_718 (by decide) (fun hc => ?_) (fun hc => ?_)
            · replace hw := hw.1 hc
              refine lv_goto (tgt := 1442) B.1.1 B.1.2.1 dL_law_733 (by decide) ?_
              refine lv_iinc (i := 5) (v := (m5 + (6 : Int32))) (lv' := [(5, .int (m5 + (6 : Int32))), (7, .int r23), (6, .int r22), (0, .ref b), (1, .ref c1), (2, .ref c2), (3, .ref c3), (4, .ref c4)]) B.1.1 B.1.2.1 dL_law_1442 hl (k := 7) rfl rfl (by decide) rfl (fun ls hl9 => ?_)
              replace hl := hl9
              clear hl9
              refine lv_goto (tgt := 28) B.1.1 B.1.2.1 dL_law_1445 (by decide) ?_
              exact ih (m5 + (6 : Int32)) _ _ _ ls _ _ (by omega) (by omega) h (lv_sub hl [3, 4, 5, 6, 7, 0] rfl) hw hk
            · replace hw := hw.2 hc
              refine lv_aload_n B.1.1 B.1.2.1 dL_law_721 rfl (lv_at hl 5 rfl) ?_
              refine lv_iconst (v := (0 : Int32)) B.1.1 B.1.2.1 dL_law_722 (by decide) ?_
              obtain ⟨hok, hin9, hw⟩ := hw
              refine q_lald B h dL_law_723 hok.1 hok.2 hin9 ?_
              refine lv_iload B.1.1 B.1.2.1 dL_law_724 (lv_at hl 0 rfl) ?_
              refine lv_i2l B.1.1 B.1.2.1 dL_law_726 rfl ?_
              refine W.lcmp B.1.1 B.1.2.1 dL_law_727 ?_
              refine lv_if_eq (tgt := 733) B.1.1 B.1.2.1 dL_law_728 (by decide) (fun hc => ?_) (fun hc => ?_)
              · replace hw := hw.1 hc
                refine lv_goto (tgt := 1442) B.1.1 B.1.2.1 dL_law_733 (by decide) ?_
                refine lv_iinc (i := 5) (v := (m5 + (6 : Int32))) (lv' := [(5, .int (m5 + (6 : Int32))), (7, .int r23), (6, .int r22), (0, .ref b), (1, .ref c1), (2, .ref c2), (3, .ref c3), (4, .ref c4)]) B.1.1 B.1.2.1 dL_law_1442 hl (k := 7) rfl rfl (by decide) rfl (fun ls hl9 => ?_)
                replace hl := hl9
                clear hl9
                refine lv_goto (tgt := 28) B.1.1 B.1.2.1 dL_law_1445 (by decide) ?_
                exact ih (m5 + (6 : Int32)) _ _ _ ls _ _ (by omega) (by omega) h (lv_sub hl [3, 4, 5, 6, 7, 0] rfl) hw hk
              · replace hw := hw.2 hc
                refine lv_iconst (v := (0 : Int32)) B.1.1 B.1.2.1 dL_law_731 (by decide) ?_
                exact False.elim hw
          · replace hw := hw.2 hc
            refine lv_iconst (v := (0 : Int32)) B.1.1 B.1.2.1 dL_law_714 (by decide) ?_
            exact False.elim hw
        by_cases hk8 : xx = (8 : Int32)
        · replace hw := hw.2.2.2.2.2.2.2.2.1 hk8
          rw [hk8]
          refine lv_tableIn (off := 691) (tgt := 736) B.1.1 B.1.2.1 dL_law_45 (by decide) (by decide) (by decide) (by decide) ?_
          refine lv_aload_n B.1.1 B.1.2.1 dL_law_736 rfl (lv_at hl 1 rfl) ?_
          refine lv_aload_n B.1.1 B.1.2.1 dL_law_737 rfl (lv_at hl 0 rfl) ?_
          refine lv_iload B.1.1 B.1.2.1 dL_law_738 (lv_at hl 5 rfl) ?_
          refine lv_iconst (v := (1 : Int32)) B.1.1 B.1.2.1 dL_law_740 (by decide) ?_
          refine lv_iadd B.1.1 B.1.2.1 dL_law_741 ?_
          obtain ⟨hin9, hw⟩ := hw
          refine va_sld B.1.1 B.1.2.1 hX hbl hbA h.2 hin9 dL_law_742 ?_
          refine lv_aload_n B.1.1 B.1.2.1 dL_law_743 rfl (lv_at hl 0 rfl) ?_
          refine lv_iload B.1.1 B.1.2.1 dL_law_744 (lv_at hl 5 rfl) ?_
          refine lv_iconst (v := (2 : Int32)) B.1.1 B.1.2.1 dL_law_746 (by decide) ?_
          refine lv_iadd B.1.1 B.1.2.1 dL_law_747 ?_
          obtain ⟨hin9, hw⟩ := hw
          refine va_sld B.1.1 B.1.2.1 hX hbl hbA h.2 hin9 dL_law_748 ?_
          refine lv_aload_n B.1.1 B.1.2.1 dL_law_749 rfl (lv_at hl 0 rfl) ?_
          refine lv_iload B.1.1 B.1.2.1 dL_law_750 (lv_at hl 5 rfl) ?_
          refine lv_iconst (v := (3 : Int32)) B.1.1 B.1.2.1 dL_law_752 (by decide) ?_
          refine lv_iadd B.1.1 B.1.2.1 dL_law_753 ?_
          obtain ⟨hin9, hw⟩ := hw
          refine va_sld B.1.1 B.1.2.1 hX hbl hbA h.2 hin9 dL_law_754 ?_
          refine lv_aload_n B.1.1 B.1.2.1 dL_law_755 rfl (lv_at hl 3 rfl) ?_
          refine q_callH B h (met_L_patch l hst (some c1) (xs (m5 + (1 : Int32)).toNatClampNeg) (xs (m5 + (2 : Int32)).toNatClampNeg) (xs (m5 + (3 : Int32)).toNatClampNeg) (some c3)) (CSW B 5 kC_L_patch kI_RL kM_RL_114 kS_L_patch hd_L_patch ⟨Nat.le_of_ble_eq_true rfl, Nat.le_of_ble_eq_true rfl⟩) (rest := []) rfl rfl hl.1 (Nat.le_of_ble_eq_true rfl) dL_law_756 ⟨(by show _ ≤ 601024; omega), (by show _ ≤ 7293034; omega)⟩ hw (fun r25 S31 H locs hw9 h9 => ?_)
          replace hw := hw9
          clear hw9
          replace h := h9
          clear h9
          refine lv_istore (i := 6) (lv' := [(6, .int r25), (0, .ref b), (1, .ref c1), (2, .ref c2), (3, .ref c3), (4, .ref c4), (5, .int m5)]) B.1.1 B.1.2.1 dL_law_759 hl (by decide) rfl (fun ls hl9 => ?_)
          replace hl := hl9
          clear hl9
          refine lv_aload_n B.1.1 B.1.2.1 dL_law_761 rfl (lv_at hl 3 rfl) ?_
          refine lv_aload_n B.1.1 B.1.2.1 dL_law_762 rfl (lv_at hl 1 rfl) ?_
          refine lv_iload B.1.1 B.1.2.1 dL_law_763 (lv_at hl 6 rfl) ?_
          refine lv_iconst (v := (1 : Int32)) B.1.1 B.1.2.1 dL_law_765 (by decide) ?_
          refine lv_iadd B.1.1 B.1.2.1 dL_law_766 ?_
          obtain ⟨hin9, hw⟩ := hw
          refine va_sld B.1.1 B.1.2.1 hX hbl hbA h.2 hin9 dL_law_767 ?_
          refine lv_aload_n B.1.1 B.1.2.1 dL_law_768 rfl (lv_at hl 1 rfl) ?_
          refine lv_iload B.1.1 B.1.2.1 dL_law_769 (lv_at hl 6 rfl) ?_
          refine lv_iconst (v := (2 : Int32)) B.1.1 B.1.2.1 dL_law_771 (by decide) ?_
          refine lv_iadd B.1.1 B.1.2.1 dL_law_772 ?_
          obtain ⟨hin9, hw⟩ := hw
          refine va_sld B.1.1 B.1.2.1 hX hbl hbA h.2 hin9 dL_law_773 ?_
          refine lv_aload_n B.1.1 B.1.2.1 dL_law_774 rfl (lv_at hl 1 rfl) ?_
          refine lv_iload B.1.1 B.1.2.1 dL_law_775 (lv_at hl 6 rfl) ?_
          refine lv_iconst (v := (3 : Int32)) B.1.1 B.1.2.1 dL_law_777 (by decide) ?_
          refine lv_iadd B.1.1 B.1.2.1 dL_law_778 ?_
          obtain ⟨hin9, hw⟩ := hw
          refine va_sld B.1.1 B.1.2.1 hX hbl hbA h.2 hin9 dL_law_779 ?_
          obtain ⟨hok, hw⟩ := hw
          refine q_callIV B h (met_X5_patch l c2 (xs (m5 + (1 : Int32)).toNatClampNeg) (xs (m5 + (2 : Int32)).toNatClampNeg) (xs (m5 + (3 : Int32)).toNatClampNeg)) (CB B 3 kC_X5_patch kI_RX5 kM_RL_117 hd_X5_patch ⟨Nat.le_of_ble_eq_true rfl, Nat.le_of_ble_eq_true rfl⟩) kO_X5_patch kV_X5_patch (ci := 5) rfl (by decide) hok.1 hok.2 (rest := []) rfl rfl hl.1 (Nat.le_of_ble_eq_true rfl) dL_law_780 ⟨(by show _ ≤ 601024; omega), (by show _ ≤ 7293034; omega)⟩ hw (fun r26 S32 H locs hw9 h9 => ?_)
          replace hw := hw9
          clear hw9
          replace h := h9
          clear h9
          refine lv_istore (i := 7) (lv' := [(7, .int r26), (6, .int r25), (0, .ref b), (1, .ref c1), (2, .ref c2), (3, .ref c3), (4, .ref c4), (5, .int m5)]) B.1.1 B.1.2.1 dL_law_783 hl (by decide) rfl (fun ls hl9 => ?_)
          replace hl := hl9
          clear hl9
          refine lv_aload_n B.1.1 B.1.2.1 dL_law_785 rfl (lv_at hl 4 rfl) ?_
          obtain ⟨hok, hw⟩ := hw
          refine q_callIV B h (met_X5_thrown l c2) (CB B 0 kC_X5_thrown kI_RX5 kM_RL_86 hd_X5_thrown ⟨Nat.le_of_ble_eq_true rfl, Nat.le_of_ble_eq_true rfl⟩) kO_X5_thrown kV_X5_thrown (ci := 5) rfl (by decide) hok.1 hok.2 (rest := []) rfl rfl hl.1 (Nat.le_of_ble_eq_true rfl) dL_law_786 ⟨(by show _ ≤ 601024; omega), (by show _ ≤ 7293034; omega)⟩ hw (fun r27 S33 H locs hw9 h9 => ?_)
          replace hw := hw9
          clear hw9
          replace h := h9
          clear h9
          refine lv_iload B.1.1 B.1.2.1 dL_law_789 (lv_at hl 1 rfl) ?_
          refine lv_icmp_eq (tgt := 796) B.1.1 B.1.2.1 dL_law_791 (by decide) (fun hc => ?_) (fun hc => ?_)
          · replace hw := hw.1 hc
            refine lv_iload B.1.1 B.1.2.1 dL_law_796 (lv_at hl 1 rfl) ?_
            refine lv_if_ne (tgt := 813) B.1.1 B.1.2.1 dL_law_798 (by decide) (fun hc => ?_) (fun hc => ?_)
            · replace hw := hw.1 hc
              refine lv_goto (tgt := 1442) B.1.1 B.1.2.1 dL_law_813 (by decide) ?_
              refine lv_iinc (i := 5) (v := (m5 + (6 : Int32))) (lv' := [(5, .int (m5 + (6 : Int32))), (7, .int r26), (6, .int r25), (0, .ref b), (1, .ref c1), (2, .ref c2), (3, .ref c3), (4, .ref c4)]) B.1.1 B.1.2.1 dL_law_1442 hl (k := 7) rfl rfl (by decide) rfl (fun ls hl9 => ?_)
              replace hl := hl9
              clear hl9
              refine lv_goto (tgt := 28) B.1.1 B.1.2.1 dL_law_1445 (by decide) ?_
              exact ih (m5 + (6 : Int32)) _ _ _ ls _ _ (by omega) (by omega) h (lv_sub hl [3, 4, 5, 6, 7, 0] rfl) hw hk
            · replace hw := hw.2 hc
              refine lv_aload_n B.1.1 B.1.2.1 dL_law_801 rfl (lv_at hl 5 rfl) ?_
              refine lv_iconst (v := (0 : Int32)) B.1.1 B.1.2.1 dL_law_802 (by decide) ?_
              obtain ⟨hok, hin9, hw⟩ := hw
              refine q_lald B h dL_law_803 hok.1 hok.2 hin9 ?_
              refine lv_iload B.1.1 B.1.2.1 dL_law_804 (lv_at hl 0 rfl) ?_
              refine lv_i2l B.1.1 B.1.2.1 dL_law_806 rfl ?_
              refine W.lcmp B.1.1 B.1.2.1 dL_law_807 ?_
              refine lv_if_eq (tgt := 813) B.1.1 B.1.2.1 dL_law_808 (by decide) (fun hc => ?_) (fun hc => ?_)
              · replace hw := hw.1 hc
                refine lv_goto (tgt := 1442) B.1.1 B.1.2.1 dL_law_813 (by decide) ?_
                refine lv_iinc (i := 5) (v := (m5 + (6 : Int32))) (lv' := [(5, .int (m5 + (6 : Int32))), (7, .int r26), (6, .int r25), (0, .ref b), (1, .ref c1), (2, .ref c2), (3, .ref c3), (4, .ref c4)]) B.1.1 B.1.2.1 dL_law_1442 hl (k := 7) rfl rfl (by decide) rfl (fun ls hl9 => ?_)
                replace hl := hl9
                clear hl9
                refine lv_goto (tgt := 28) B.1.1 B.1.2.1 dL_law_1445 (by decide) ?_
                exact ih (m5 + (6 : Int32)) _ _ _ ls _ _ (by omega) (by omega) h (lv_sub hl [3, 4, 5, 6, 7, 0] rfl) hw hk
              · replace hw := hw.2 hc
                refine lv_iconst (v := (0 : Int32)) B.1.1 B.1.2.1 dL_law_811 (by decide) ?_
                exact False.elim hw
          · replace hw := hw.2 hc
            refine lv_iconst (v := (0 : Int32)) B.1.1 B.1.2.1 dL_law_794 (by decide) ?_
            exact False.elim hw
        by_cases hk9 : xx = (9 : Int32)
        · replace hw := hw.2.2.2.2.2.2.2.2.2.1 hk9
          rw [hk9]
          refine lv_tableIn (off := 771) (tgt := 816) B.1.1 B.1.2.1 dL_law_45 (by decide) (by decide) (by decide) (by decide) ?_
          refine lv_aload_n B.1.1 B.1.2.1 dL_law_816 rfl (lv_at hl 1 rfl) ?_
          refine lv_aload_n B.1.1 B.1.2.1 dL_law_817 rfl (lv_at hl 0 rfl) ?_
          refine lv_iload B.1.1 B.1.2.1 dL_law_818 (lv_at hl 5 rfl) ?_
          refine lv_iconst (v := (1 : Int32)) B.1.1 B.1.2.1 dL_law_820 (by decide) ?_
          refine lv_iadd B.1.1 B.1.2.1 dL_law_821 ?_
          obtain ⟨hin9, hw⟩ := hw
          refine va_sld B.1.1 B.1.2.1 hX hbl hbA h.2 hin9 dL_law_822 ?_
          refine lv_aload_n B.1.1 B.1.2.1 dL_law_823 rfl (lv_at hl 0 rfl) ?_
          refine lv_iload B.1.1 B.1.2.1 dL_law_824 (lv_at hl 5 rfl) ?_
          refine lv_iconst (v := (2 : Int32)) B.1.1 B.1.2.1 dL_law_826 (by decide) ?_
          refine lv_iadd B.1.1 B.1.2.1 dL_law_827 ?_
          obtain ⟨hin9, hw⟩ := hw
          refine va_sld B.1.1 B.1.2.1 hX hbl hbA h.2 hin9 dL_law_828 ?_
          refine lv_aload_n B.1.1 B.1.2.1 dL_law_829 rfl (lv_at hl 0 rfl) ?_
          refine lv_iload B.1.1 B.1.2.1 dL_law_830 (lv_at hl 5 rfl) ?_
          refine lv_iconst (v := (3 : Int32)) B.1.1 B.1.2.1 dL_law_832 (by decide) ?_
          refine lv_iadd B.1.1 B.1.2.1 dL_law_833 ?_
          obtain ⟨hin9, hw⟩ := hw
          refine va_sld B.1.1 B.1.2.1 hX hbl hbA h.2 hin9 dL_law_834 ?_
          refine lv_aload_n B.1.1 B.1.2.1 dL_law_835 rfl (lv_at hl 3 rfl) ?_
          refine q_callH B h (met_L_put l hst (some c1) (xs (m5 + (1 : Int32)).toNatClampNeg) (xs (m5 + (2 : Int32)).toNatClampNeg) (xs (m5 + (3 : Int32)).toNatClampNeg) (some c3)) (CSW B 5 kC_L_put kI_RL kM_RL_118 kS_L_put hd_L_put ⟨Nat.le_of_ble_eq_true rfl, Nat.le_of_ble_eq_true rfl⟩) (rest := []) rfl rfl hl.1 (Nat.le_of_ble_eq_true rfl) dL_law_836 ⟨(by show _ ≤ 601024; omega), (by show _ ≤ 7293034; omega)⟩ hw (fun r28 S34 H locs hw9 h9 => ?_)
          replace hw := hw9
          clear hw9
          replace h := h9
          clear h9
          refine lv_istore (i := 6) (lv' := [(6, .int r28), (0, .ref b), (1, .ref c1), (2, .ref c2), (3, .ref c3), (4, .ref c4), (5, .int m5)]) B.1.1 B.1.2.1 dL_law_839 hl (by decide) rfl (fun ls hl9 => ?_)
          replace hl := hl9
          clear hl9
          refine lv_aload_n B.1.1 B.1.2.1 dL_law_841 rfl (lv_at hl 3 rfl) ?_
          refine lv_aload_n B.1.1 B.1.2.1 dL_law_842 rfl (lv_at hl 1 rfl) ?_
          refine lv_iload B.1.1 B.1.2.1 dL_law_843 (lv_at hl 6 rfl) ?_
          refine lv_iconst (v := (1 : Int32)) B.1.1 B.1.2.1 dL_law_845 (by decide) ?_
          refine lv_iadd B.1.1 B.1.2.1 dL_law_846 ?_
          obtain ⟨hin9, hw⟩ := hw
          refine va_sld B.1.1 B.1.2.1 hX hbl hbA h.2 hin9 dL_law_847 ?_
          refine lv_aload_n B.1.1 B.1.2.1 dL_law_848 rfl (lv_at hl 1 rfl) ?_
          refine lv_iload B.1.1 B.1.2.1 dL_law_849 (lv_at hl 6 rfl) ?_
          refine lv_iconst (v := (2 : Int32)) B.1.1 B.1.2.1 dL_law_851 (by decide) ?_
          refine lv_iadd B.1.1 B.1.2.1 dL_law_852 ?_
          obtain ⟨hin9, hw⟩ := hw
          refine va_sld B.1.1 B.1.2.1 hX hbl hbA h.2 hin9 dL_law_853 ?_
          refine lv_aload_n B.1.1 B.1.2.1 dL_law_854 rfl (lv_at hl 1 rfl) ?_
          refine lv_iload B.1.1 B.1.2.1 dL_law_855 (lv_at hl 6 rfl) ?_
          refine lv_iconst (v := (3 : Int32)) B.1.1 B.1.2.1 dL_law_857 (by decide) ?_
          refine lv_iadd B.1.1 B.1.2.1 dL_law_858 ?_
          obtain ⟨hin9, hw⟩ := hw
          refine va_sld B.1.1 B.1.2.1 hX hbl hbA h.2 hin9 dL_law_859 ?_
          obtain ⟨hok, hw⟩ := hw
          refine q_callIV B h (met_X5_put l c2 (xs (m5 + (1 : Int32)).toNatClampNeg) (xs (m5 + (2 : Int32)).toNatClampNeg) (xs (m5 + (3 : Int32)).toNatClampNeg)) (CB B 3 kC_X5_put kI_RX5 kM_RL_120 hd_X5_put ⟨Nat.le_of_ble_eq_true rfl, Nat.le_of_ble_eq_true rfl⟩) kO_X5_put kV_X5_put (ci := 5) rfl (by decide) hok.1 hok.2 (rest := []) rfl rfl hl.1 (Nat.le_of_ble_eq_true rfl) dL_law_860 ⟨(by show _ ≤ 601024; omega), (by show _ ≤ 7293034; omega)⟩ hw (fun r29 S35 H locs hw9 h9 => ?_)
          replace hw := hw9
          clear hw9
          replace h := h9
          clear h9
          refine lv_istore (i := 7) (lv' := [(7, .int r29), (6, .int r28), (0, .ref b), (1, .ref c1), (2, .ref c2), (3, .ref c3), (4, .ref c4), (5, .int m5)]) B.1.1 B.1.2.1 dL_law_863 hl (by decide) rfl (fun ls hl9 => ?_)
          replace hl := hl9
          clear hl9
          refine lv_aload_n B.1.1 B.1.2.1 dL_law_865 rfl (lv_at hl 4 rfl) ?_
          obtain ⟨hok, hw⟩ := hw
          refine q_callIV B h (met_X5_thrown l c2) (CB B 0 kC_X5_thrown kI_RX5 kM_RL_86 hd_X5_thrown ⟨Nat.le_of_ble_eq_true rfl, Nat.le_of_ble_eq_true rfl⟩) kO_X5_thrown kV_X5_thrown (ci := 5) rfl (by decide) hok.1 hok.2 (rest := []) rfl rfl hl.1 (Nat.le_of_ble_eq_true rfl) dL_law_866 ⟨(by show _ ≤ 601024; omega), (by show _ ≤ 7293034; omega)⟩ hw (fun r30 S36 H locs hw9 h9 => ?_)
          replace hw := hw9
          clear hw9
          replace h := h9
          clear h9
          refine lv_iload B.1.1 B.1.2.1 dL_law_869 (lv_at hl 1 rfl) ?_
          refine lv_icmp_eq (tgt := 876) B.1.1 B.1.2.1 dL_law_871 (by decide) (fun hc => ?_) (fun hc => ?_)
          · replace hw := hw.1 hc
            refine lv_iload B.1.1 B.1.2.1 dL_law_876 (lv_at hl 1 rfl) ?_
            refine lv_if_ne (tgt := 893) B.1.1 B.1.2.1 dL_law_878 (by decide) (fun hc => ?_) (fun hc => ?_)
            · replace hw := hw.1 hc
              refine lv_goto (tgt := 1442) B.1.1 B.1.2.1 dL_law_893 (by decide) ?_
              refine lv_iinc (i := 5) (v := (m5 + (6 : Int32))) (lv' := [(5, .int (m5 + (6 : Int32))), (7, .int r29), (6, .int r28), (0, .ref b), (1, .ref c1), (2, .ref c2), (3, .ref c3), (4, .ref c4)]) B.1.1 B.1.2.1 dL_law_1442 hl (k := 7) rfl rfl (by decide) rfl (fun ls hl9 => ?_)
              replace hl := hl9
              clear hl9
              refine lv_goto (tgt := 28) B.1.1 B.1.2.1 dL_law_1445 (by decide) ?_
              exact ih (m5 + (6 : Int32)) _ _ _ ls _ _ (by omega) (by omega) h (lv_sub hl [3, 4, 5, 6, 7, 0] rfl) hw hk
            · replace hw := hw.2 hc
              refine lv_aload_n B.1.1 B.1.2.1 dL_law_881 rfl (lv_at hl 5 rfl) ?_
              refine lv_iconst (v := (0 : Int32)) B.1.1 B.1.2.1 dL_law_882 (by decide) ?_
              obtain ⟨hok, hin9, hw⟩ := hw
              refine q_lald B h dL_law_883 hok.1 hok.2 hin9 ?_
              refine lv_iload B.1.1 B.1.2.1 dL_law_884 (lv_at hl 0 rfl) ?_
              refine lv_i2l B.1.1 B.1.2.1 dL_law_886 rfl ?_
              refine W.lcmp B.1.1 B.1.2.1 dL_law_887 ?_
              refine lv_if_eq (tgt := 893) B.1.1 B.1.2.1 dL_law_888 (by decide) (fun hc => ?_) (fun hc => ?_)
              · replace hw := hw.1 hc
                refine lv_goto (tgt := 1442) B.1.1 B.1.2.1 dL_law_893 (by decide) ?_
                refine lv_iinc (i := 5) (v := (m5 + (6 : Int32))) (lv' := [(5, .int (m5 + (6 : Int32))), (7, .int r29), (6, .int r28), (0, .ref b), (1, .ref c1), (2, .ref c2), (3, .ref c3), (4, .ref c4)]) B.1.1 B.1.2.1 dL_law_1442 hl (k := 7) rfl rfl (by decide) rfl (fun ls hl9 => ?_)
                replace hl := hl9
                clear hl9
                refine lv_goto (tgt := 28) B.1.1 B.1.2.1 dL_law_1445 (by decide) ?_
                exact ih (m5 + (6 : Int32)) _ _ _ ls _ _ (by omega) (by omega) h (lv_sub hl [3, 4, 5, 6, 7, 0] rfl) hw hk
              · replace hw := hw.2 hc
                refine lv_iconst (v := (0 : Int32)) B.1.1 B.1.2.1 dL_law_891 (by decide) ?_
                exact False.elim hw
          · replace hw := hw.2 hc
            refine lv_iconst (v := (0 : Int32)) B.1.1 B.1.2.1 dL_law_874 (by decide) ?_
            exact False.elim hw
        by_cases hk10 : xx = (10 : Int32)
        · replace hw := hw.2.2.2.2.2.2.2.2.2.2.1 hk10
          rw [hk10]
          refine lv_tableIn (off := 851) (tgt := 896) B.1.1 B.1.2.1 dL_law_45 (by decide) (by decide) (by decide) (by decide) ?_
          refine lv_aload_n B.1.1 B.1.2.1 dL_law_896 rfl (lv_at hl 1 rfl) ?_
          refine lv_aload_n B.1.1 B.1.2.1 dL_law_897 rfl (lv_at hl 0 rfl) ?_
          refine lv_iload B.1.1 B.1.2.1 dL_law_898 (lv_at hl 5 rfl) ?_
          refine lv_iconst (v := (1 : Int32)) B.1.1 B.1.2.1 dL_law_900 (by decide) ?_
          refine lv_iadd B.1.1 B.1.2.1 dL_law_901 ?_
          obtain ⟨hin9, hw⟩ := hw
          refine va_sld B.1.1 B.1.2.1 hX hbl hbA h.2 hin9 dL_law_902 ?_
          refine lv_aload_n B.1.1 B.1.2.1 dL_law_903 rfl (lv_at hl 3 rfl) ?_
          refine q_callH B h (met_L_pass l hst (some c1) (xs (m5 + (1 : Int32)).toNatClampNeg) (some c3)) (CSW B 3 kC_L_pass kI_RL kM_RL_121 kS_L_pass hd_L_pass ⟨Nat.le_of_ble_eq_true rfl, Nat.le_of_ble_eq_true rfl⟩) (rest := []) rfl rfl hl.1 (Nat.le_of_ble_eq_true rfl) dL_law_904 ⟨(by show _ ≤ 601024; omega), (by show _ ≤ 7293034; omega)⟩ hw (fun r31 S37 H locs hw9 h9 => ?_)
          replace hw := hw9
          clear hw9
          replace h := h9
          clear h9
          refine lv_istore (i := 6) (lv' := [(6, .int r31), (0, .ref b), (1, .ref c1), (2, .ref c2), (3, .ref c3), (4, .ref c4), (5, .int m5)]) B.1.1 B.1.2.1 dL_law_907 hl (by decide) rfl (fun ls hl9 => ?_)
          replace hl := hl9
          clear hl9
          refine lv_aload_n B.1.1 B.1.2.1 dL_law_909 rfl (lv_at hl 3 rfl) ?_
          refine lv_aload_n B.1.1 B.1.2.1 dL_law_910 rfl (lv_at hl 1 rfl) ?_
          refine lv_iload B.1.1 B.1.2.1 dL_law_911 (lv_at hl 6 rfl) ?_
          refine lv_iconst (v := (1 : Int32)) B.1.1 B.1.2.1 dL_law_913 (by decide) ?_
          refine lv_iadd B.1.1 B.1.2.1 dL_law_914 ?_
          obtain ⟨hin9, hw⟩ := hw
          refine va_sld B.1.1 B.1.2.1 hX hbl hbA h.2 hin9 dL_law_915 ?_
          obtain ⟨hok, hw⟩ := hw
          refine q_callIV B h (met_X5_pass l c2 (xs (m5 + (1 : Int32)).toNatClampNeg)) (CB B 1 kC_X5_pass kI_RX5 kM_RL_123 hd_X5_pass ⟨Nat.le_of_ble_eq_true rfl, Nat.le_of_ble_eq_true rfl⟩) kO_X5_pass kV_X5_pass (ci := 5) rfl (by decide) hok.1 hok.2 (rest := []) rfl rfl hl.1 (Nat.le_of_ble_eq_true rfl) dL_law_916 ⟨(by show _ ≤ 601024; omega), (by show _ ≤ 7293034; omega)⟩ hw (fun r32 S38 H locs hw9 h9 => ?_)
          replace hw := hw9
          clear hw9
          replace h := h9
          clear h9
          refine lv_istore (i := 7) (lv' := [(7, .int r32), (6, .int r31), (0, .ref b), (1, .ref c1), (2, .ref c2), (3, .ref c3), (4, .ref c4), (5, .int m5)]) B.1.1 B.1.2.1 dL_law_919 hl (by decide) rfl (fun ls hl9 => ?_)
          replace hl := hl9
          clear hl9
          refine lv_aload_n B.1.1 B.1.2.1 dL_law_921 rfl (lv_at hl 4 rfl) ?_
          obtain ⟨hok, hw⟩ := hw
          refine q_callIV B h (met_X5_thrown l c2) (CB B 0 kC_X5_thrown kI_RX5 kM_RL_86 hd_X5_thrown ⟨Nat.le_of_ble_eq_true rfl, Nat.le_of_ble_eq_true rfl⟩) kO_X5_thrown kV_X5_thrown (ci := 5) rfl (by decide) hok.1 hok.2 (rest := []) rfl rfl hl.1 (Nat.le_of_ble_eq_true rfl) dL_law_922 ⟨(by show _ ≤ 601024; omega), (by show _ ≤ 7293034; omega)⟩ hw (fun r33 S39 H locs hw9 h9 => ?_)
          replace hw := hw9
          clear hw9
          replace h := h9
          clear h9
          refine lv_iload B.1.1 B.1.2.1 dL_law_925 (lv_at hl 1 rfl) ?_
          refine lv_icmp_eq (tgt := 932) B.1.1 B.1.2.1 dL_law_927 (by decide) (fun hc => ?_) (fun hc => ?_)
          · replace hw := hw.1 hc
            refine lv_iload B.1.1 B.1.2.1 dL_law_932 (lv_at hl 1 rfl) ?_
            refine lv_if_ne (tgt := 949) B.1.1 B.1.2.1 dL_law_934 (by decide) (fun hc => ?_) (fun hc => ?_)
            · replace hw := hw.1 hc
              refine lv_goto (tgt := 1442) B.1.1 B.1.2.1 dL_law_949 (by decide) ?_
              refine lv_iinc (i := 5) (v := (m5 + (6 : Int32))) (lv' := [(5, .int (m5 + (6 : Int32))), (7, .int r32), (6, .int r31), (0, .ref b), (1, .ref c1), (2, .ref c2), (3, .ref c3), (4, .ref c4)]) B.1.1 B.1.2.1 dL_law_1442 hl (k := 7) rfl rfl (by decide) rfl (fun ls hl9 => ?_)
              replace hl := hl9
              clear hl9
              refine lv_goto (tgt := 28) B.1.1 B.1.2.1 dL_law_1445 (by decide) ?_
              exact ih (m5 + (6 : Int32)) _ _ _ ls _ _ (by omega) (by omega) h (lv_sub hl [3, 4, 5, 6, 7, 0] rfl) hw hk
            · replace hw := hw.2 hc
              refine lv_aload_n B.1.1 B.1.2.1 dL_law_937 rfl (lv_at hl 5 rfl) ?_
              refine lv_iconst (v := (0 : Int32)) B.1.1 B.1.2.1 dL_law_938 (by decide) ?_
              obtain ⟨hok, hin9, hw⟩ := hw
              refine q_lald B h dL_law_939 hok.1 hok.2 hin9 ?_
              refine lv_iload B.1.1 B.1.2.1 dL_law_940 (lv_at hl 0 rfl) ?_
              refine lv_i2l B.1.1 B.1.2.1 dL_law_942 rfl ?_
              refine W.lcmp B.1.1 B.1.2.1 dL_law_943 ?_
              refine lv_if_eq (tgt := 949) B.1.1 B.1.2.1 dL_law_944 (by decide) (fun hc => ?_) (fun hc => ?_)
              · replace hw := hw.1 hc
                refine lv_goto (tgt := 1442) B.1.1 B.1.2.1 dL_law_949 (by decide) ?_
                refine lv_iinc (i := 5) (v := (m5 + (6 : Int32))) (lv' := [(5, .int (m5 + (6 : Int32))), (7, .int r32), (6, .int r31), (0, .ref b), (1, .ref c1), (2, .ref c2), (3, .ref c3), (4, .ref c4)]) B.1.1 B.1.2.1 dL_law_1442 hl (k := 7) rfl rfl (by decide) rfl (fun ls hl9 => ?_)
                replace hl := hl9
                clear hl9
                refine lv_goto (tgt := 28) B.1.1 B.1.2.1 dL_law_1445 (by decide) ?_
                exact ih (m5 + (6 : Int32)) _ _ _ ls _ _ (by omega) (by omega) h (lv_sub hl [3, 4, 5, 6, 7, 0] rfl) hw hk
              · replace hw := hw.2 hc
                refine lv_iconst (v := (0 : Int32)) B.1.1 B.1.2.1 dL_law_947 (by decide) ?_
                exact False.elim hw
          · replace hw := hw.2 hc
            refine lv_iconst (v := (0 : Int32)) B.1.1 B.1.2.1 dL_law_930 (by decide) ?_
            exact False.elim hw
        by_cases hk11 : xx = (11 : Int32)
        · replace hw := hw.2.2.2.2.2.2.2.2.2.2.2.1 hk11
          rw [hk11]
          refine lv_tableIn (off := 907) (tgt := 952) B.1.1 B.1.2.1 dL_law_45 (by decide) (by decide) (by decide) (by decide) ?_
          refine lv_aload_n B.1.1 B.1.2.1 dL_law_952 rfl (lv_at hl 1 rfl) ?_
          refine lv_aload_n B.1.1 B.1.2.1 dL_law_953 rfl (lv_at hl 0 rfl) ?_
          refine lv_iload B.1.1 B.1.2.1 dL_law_954 (lv_at hl 5 rfl) ?_
          refine lv_iconst (v := (1 : Int32)) B.1.1 B.1.2.1 dL_law_956 (by decide) ?_
          refine lv_iadd B.1.1 B.1.2.1 dL_law_957 ?_
          obtain ⟨hin9, hw⟩ := hw
          refine va_sld B.1.1 B.1.2.1 hX hbl hbA h.2 hin9 dL_law_958 ?_
          refine lv_aload_n B.1.1 B.1.2.1 dL_law_959 rfl (lv_at hl 3 rfl) ?_
          refine q_callH B h (met_L_prints l hst (some c1) (xs (m5 + (1 : Int32)).toNatClampNeg) (some c3)) (CSW B 3 kC_L_prints kI_RL kM_RL_124 kS_L_prints hd_L_prints ⟨Nat.le_of_ble_eq_true rfl, Nat.le_of_ble_eq_true rfl⟩) (rest := []) rfl rfl hl.1 (Nat.le_of_ble_eq_true rfl) dL_law_960 ⟨(by show _ ≤ 601024; omega), (by show _ ≤ 7293034; omega)⟩ hw (fun r34 S40 H locs hw9 h9 => ?_)
          replace hw := hw9
          clear hw9
          replace h := h9
          clear h9
          refine lv_istore (i := 6) (lv' := [(6, .int r34), (0, .ref b), (1, .ref c1), (2, .ref c2), (3, .ref c3), (4, .ref c4), (5, .int m5)]) B.1.1 B.1.2.1 dL_law_963 hl (by decide) rfl (fun ls hl9 => ?_)
          replace hl := hl9
          clear hl9
          refine lv_aload_n B.1.1 B.1.2.1 dL_law_965 rfl (lv_at hl 3 rfl) ?_
          refine lv_aload_n B.1.1 B.1.2.1 dL_law_966 rfl (lv_at hl 1 rfl) ?_
          refine lv_iload B.1.1 B.1.2.1 dL_law_967 (lv_at hl 6 rfl) ?_
          refine lv_iconst (v := (1 : Int32)) B.1.1 B.1.2.1 dL_law_969 (by decide) ?_
          refine lv_iadd B.1.1 B.1.2.1 dL_law_970 ?_
          obtain ⟨hin9, hw⟩ := hw
          refine va_sld B.1.1 B.1.2.1 hX hbl hbA h.2 hin9 dL_law_971 ?_
          obtain ⟨hok, hw⟩ := hw
          refine q_callIV B h (met_X5_prints l c2 (xs (m5 + (1 : Int32)).toNatClampNeg)) (CB B 1 kC_X5_prints kI_RX5 kM_RL_126 hd_X5_prints ⟨Nat.le_of_ble_eq_true rfl, Nat.le_of_ble_eq_true rfl⟩) kO_X5_prints kV_X5_prints (ci := 5) rfl (by decide) hok.1 hok.2 (rest := []) rfl rfl hl.1 (Nat.le_of_ble_eq_true rfl) dL_law_972 ⟨(by show _ ≤ 601024; omega), (by show _ ≤ 7293034; omega)⟩ hw (fun r35 S41 H locs hw9 h9 => ?_)
          replace hw := hw9
          clear hw9
          replace h := h9
          clear h9
          refine lv_istore (i := 7) (lv' := [(7, .int r35), (6, .int r34), (0, .ref b), (1, .ref c1), (2, .ref c2), (3, .ref c3), (4, .ref c4), (5, .int m5)]) B.1.1 B.1.2.1 dL_law_975 hl (by decide) rfl (fun ls hl9 => ?_)
          replace hl := hl9
          clear hl9
          refine lv_aload_n B.1.1 B.1.2.1 dL_law_977 rfl (lv_at hl 4 rfl) ?_
          obtain ⟨hok, hw⟩ := hw
          refine q_callIV B h (met_X5_thrown l c2) (CB B 0 kC_X5_thrown kI_RX5 kM_RL_86 hd_X5_thrown ⟨Nat.le_of_ble_eq_true rfl, Nat.le_of_ble_eq_true rfl⟩) kO_X5_thrown kV_X5_thrown (ci := 5) rfl (by decide) hok.1 hok.2 (rest := []) rfl rfl hl.1 (Nat.le_of_ble_eq_true rfl) dL_law_978 ⟨(by show _ ≤ 601024; omega), (by show _ ≤ 7293034; omega)⟩ hw (fun r36 S42 H locs hw9 h9 => ?_)
          replace hw := hw9
          clear hw9
          replace h := h9
          clear h9
          refine lv_iload B.1.1 B.1.2.1 dL_law_981 (lv_at hl 1 rfl) ?_
          refine lv_icmp_eq (tgt := 988) B.1.1 B.1.2.1 dL_law_983 (by decide) (fun hc => ?_) (fun hc => ?_)
          · replace hw := hw.1 hc
            refine lv_iload B.1.1 B.1.2.1 dL_law_988 (lv_at hl 1 rfl) ?_
            refine lv_if_ne (tgt := 1005) B.1.1 B.1.2.1 dL_law_990 (by decide) (fun hc => ?_) (fun hc => ?_)
            · replace hw := hw.1 hc
              refine lv_goto (tgt := 1442) B.1.1 B.1.2.1 dL_law_1005 (by decide) ?_
              refine lv_iinc (i := 5) (v := (m5 + (6 : Int32))) (lv' := [(5, .int (m5 + (6 : Int32))), (7, .int r35), (6, .int r34), (0, .ref b), (1, .ref c1), (2, .ref c2), (3, .ref c3), (4, .ref c4)]) B.1.1 B.1.2.1 dL_law_1442 hl (k := 7) rfl rfl (by decide) rfl (fun ls hl9 => ?_)
              replace hl := hl9
              clear hl9
              refine lv_goto (tgt := 28) B.1.1 B.1.2.1 dL_law_1445 (by decide) ?_
              exact ih (m5 + (6 : Int32)) _ _ _ ls _ _ (by omega) (by omega) h (lv_sub hl [3, 4, 5, 6, 7, 0] rfl) hw hk
            · replace hw := hw.2 hc
              refine lv_aload_n B.1.1 B.1.2.1 dL_law_993 rfl (lv_at hl 5 rfl) ?_
              refine lv_iconst (v := (0 : Int32)) B.1.1 B.1.2.1 dL_law_994 (by decide) ?_
              obtain ⟨hok, hin9, hw⟩ := hw
              refine q_lald B h dL_law_995 hok.1 hok.2 hin9 ?_
              refine lv_iload B.1.1 B.1.2.1 dL_law_996 (lv_at hl 0 rfl) ?_
              refine lv_i2l B.1.1 B.1.2.1 dL_law_998 rfl ?_
              refine W.lcmp B.1.1 B.1.2.1 dL_law_999 ?_
              refine lv_if_eq (tgt := 1005) B.1.1 B.1.2.1 dL_law_1000 (by decide) (fun hc => ?_) (fun hc => ?_)
              · replace hw := hw.1 hc
                refine lv_goto (tgt := 1442) B.1.1 B.1.2.1 dL_law_1005 (by decide) ?_
                refine lv_iinc (i := 5) (v := (m5 + (6 : Int32))) (lv' := [(5, .int (m5 + (6 : Int32))), (7, .int r35), (6, .int r34), (0, .ref b), (1, .ref c1), (2, .ref c2), (3, .ref c3), (4, .ref c4)]) B.1.1 B.1.2.1 dL_law_1442 hl (k := 7) rfl rfl (by decide) rfl (fun ls hl9 => ?_)
                replace hl := hl9
                clear hl9
                refine lv_goto (tgt := 28) B.1.1 B.1.2.1 dL_law_1445 (by decide) ?_
                exact ih (m5 + (6 : Int32)) _ _ _ ls _ _ (by omega) (by omega) h (lv_sub hl [3, 4, 5, 6, 7, 0] rfl) hw hk
              · replace hw := hw.2 hc
                refine lv_iconst (v := (0 : Int32)) B.1.1 B.1.2.1 dL_law_1003 (by decide) ?_
                exact False.elim hw
          · replace hw := hw.2 hc
            refine lv_iconst (v := (0 : Int32)) B.1.1 B.1.2.1 dL_law_986 (by decide) ?_
            exact False.elim hw
        by_cases hk12 : xx = (12 : Int32)
        · replace hw := hw.2.2.2.2.2.2.2.2.2.2.2.2.1 hk12
          rw [hk12]
          refine lv_tableIn (off := 963) (tgt := 1008) B.1.1 B.1.2.1 dL_law_45 (by decide) (by decide) (by decide) (by decide) ?_
          refine lv_aload_n B.1.1 B.1.2.1 dL_law_1008 rfl (lv_at hl 1 rfl) ?_
          refine lv_aload_n B.1.1 B.1.2.1 dL_law_1009 rfl (lv_at hl 0 rfl) ?_
          refine lv_iload B.1.1 B.1.2.1 dL_law_1010 (lv_at hl 5 rfl) ?_
          refine lv_iconst (v := (1 : Int32)) B.1.1 B.1.2.1 dL_law_1012 (by decide) ?_
          refine lv_iadd B.1.1 B.1.2.1 dL_law_1013 ?_
          obtain ⟨hin9, hw⟩ := hw
          refine va_sld B.1.1 B.1.2.1 hX hbl hbA h.2 hin9 dL_law_1014 ?_
          refine lv_aload_n B.1.1 B.1.2.1 dL_law_1015 rfl (lv_at hl 0 rfl) ?_
          refine lv_iload B.1.1 B.1.2.1 dL_law_1016 (lv_at hl 5 rfl) ?_
          refine lv_iconst (v := (2 : Int32)) B.1.1 B.1.2.1 dL_law_1018 (by decide) ?_
          refine lv_iadd B.1.1 B.1.2.1 dL_law_1019 ?_
          obtain ⟨hin9, hw⟩ := hw
          refine va_sld B.1.1 B.1.2.1 hX hbl hbA h.2 hin9 dL_law_1020 ?_
          refine lv_aload_n B.1.1 B.1.2.1 dL_law_1021 rfl (lv_at hl 3 rfl) ?_
          refine q_callH B h (met_L_dry l hst (some c1) (xs (m5 + (1 : Int32)).toNatClampNeg) (xs (m5 + (2 : Int32)).toNatClampNeg) (some c3)) (CSW B 4 kC_L_dry kI_RL kM_RL_127 kS_L_dry hd_L_dry ⟨Nat.le_of_ble_eq_true rfl, Nat.le_of_ble_eq_true rfl⟩) (rest := []) rfl rfl hl.1 (Nat.le_of_ble_eq_true rfl) dL_law_1022 ⟨(by show _ ≤ 601024; omega), (by show _ ≤ 7293034; omega)⟩ hw (fun r37 S43 H locs hw9 h9 => ?_)
          replace hw := hw9
          clear hw9
          replace h := h9
          clear h9
          refine lv_istore (i := 6) (lv' := [(6, .int r37), (0, .ref b), (1, .ref c1), (2, .ref c2), (3, .ref c3), (4, .ref c4), (5, .int m5)]) B.1.1 B.1.2.1 dL_law_1025 hl (by decide) rfl (fun ls hl9 => ?_)
          replace hl := hl9
          clear hl9
          refine lv_aload_n B.1.1 B.1.2.1 dL_law_1027 rfl (lv_at hl 3 rfl) ?_
          refine lv_aload_n B.1.1 B.1.2.1 dL_law_1028 rfl (lv_at hl 1 rfl) ?_
          refine lv_iload B.1.1 B.1.2.1 dL_law_1029 (lv_at hl 6 rfl) ?_
          refine lv_iconst (v := (1 : Int32)) B.1.1 B.1.2.1 dL_law_1031 (by decide) ?_
          refine lv_iadd B.1.1 B.1.2.1 dL_law_1032 ?_
          obtain ⟨hin9, hw⟩ := hw
          refine va_sld B.1.1 B.1.2.1 hX hbl hbA h.2 hin9 dL_law_1033 ?_
          refine lv_aload_n B.1.1 B.1.2.1 dL_law_1034 rfl (lv_at hl 1 rfl) ?_
          refine lv_iload B.1.1 B.1.2.1 dL_law_1035 (lv_at hl 6 rfl) ?_
          refine lv_iconst (v := (2 : Int32)) B.1.1 B.1.2.1 dL_law_1037 (by decide) ?_
          refine lv_iadd B.1.1 B.1.2.1 dL_law_1038 ?_
          obtain ⟨hin9, hw⟩ := hw
          refine va_sld B.1.1 B.1.2.1 hX hbl hbA h.2 hin9 dL_law_1039 ?_
          obtain ⟨hok, hw⟩ := hw
          refine q_callIV B h (met_X5_dry l c2 (xs (m5 + (1 : Int32)).toNatClampNeg) (xs (m5 + (2 : Int32)).toNatClampNeg)) (CB B 2 kC_X5_dry kI_RX5 kM_RL_129 hd_X5_dry ⟨Nat.le_of_ble_eq_true rfl, Nat.le_of_ble_eq_true rfl⟩) kO_X5_dry kV_X5_dry (ci := 5) rfl (by decide) hok.1 hok.2 (rest := []) rfl rfl hl.1 (Nat.le_of_ble_eq_true rfl) dL_law_1040 ⟨(by show _ ≤ 601024; omega), (by show _ ≤ 7293034; omega)⟩ hw (fun r38 S44 H locs hw9 h9 => ?_)
          replace hw := hw9
          clear hw9
          replace h := h9
          clear h9
          refine lv_istore (i := 7) (lv' := [(7, .int r38), (6, .int r37), (0, .ref b), (1, .ref c1), (2, .ref c2), (3, .ref c3), (4, .ref c4), (5, .int m5)]) B.1.1 B.1.2.1 dL_law_1043 hl (by decide) rfl (fun ls hl9 => ?_)
          replace hl := hl9
          clear hl9
          refine lv_aload_n B.1.1 B.1.2.1 dL_law_1045 rfl (lv_at hl 4 rfl) ?_
          obtain ⟨hok, hw⟩ := hw
          refine q_callIV B h (met_X5_thrown l c2) (CB B 0 kC_X5_thrown kI_RX5 kM_RL_86 hd_X5_thrown ⟨Nat.le_of_ble_eq_true rfl, Nat.le_of_ble_eq_true rfl⟩) kO_X5_thrown kV_X5_thrown (ci := 5) rfl (by decide) hok.1 hok.2 (rest := []) rfl rfl hl.1 (Nat.le_of_ble_eq_true rfl) dL_law_1046 ⟨(by show _ ≤ 601024; omega), (by show _ ≤ 7293034; omega)⟩ hw (fun r39 S45 H locs hw9 h9 => ?_)
          replace hw := hw9
          clear hw9
          replace h := h9
          clear h9
          refine lv_iload B.1.1 B.1.2.1 dL_law_1049 (lv_at hl 1 rfl) ?_
          refine lv_icmp_eq (tgt := 1056) B.1.1 B.1.2.1 dL_law_1051 (by decide) (fun hc => ?_) (fun hc => ?_)
          · replace hw := hw.1 hc
            refine lv_iload B.1.1 B.1.2.1 dL_law_1056 (lv_at hl 1 rfl) ?_
            refine lv_if_ne (tgt := 1073) B.1.1 B.1.2.1 dL_law_1058 (by decide) (fun hc => ?_) (fun hc => ?_)
            · replace hw := hw.1 hc
              refine lv_goto (tgt := 1442) B.1.1 B.1.2.1 dL_law_1073 (by decide) ?_
              refine lv_iinc (i := 5) (v := (m5 + (6 : Int32))) (lv' := [(5, .int (m5 + (6 : Int32))), (7, .int r38), (6, .int r37), (0, .ref b), (1, .ref c1), (2, .ref c2), (3, .ref c3), (4, .ref c4)]) B.1.1 B.1.2.1 dL_law_1442 hl (k := 7) rfl rfl (by decide) rfl (fun ls hl9 => ?_)
              replace hl := hl9
              clear hl9
              refine lv_goto (tgt := 28) B.1.1 B.1.2.1 dL_law_1445 (by decide) ?_
              exact ih (m5 + (6 : Int32)) _ _ _ ls _ _ (by omega) (by omega) h (lv_sub hl [3, 4, 5, 6, 7, 0] rfl) hw hk
            · replace hw := hw.2 hc
              refine lv_aload_n B.1.1 B.1.2.1 dL_law_1061 rfl (lv_at hl 5 rfl) ?_
              refine lv_iconst (v := (0 : Int32)) B.1.1 B.1.2.1 dL_law_1062 (by decide) ?_
              obtain ⟨hok, hin9, hw⟩ := hw
              refine q_lald B h dL_law_1063 hok.1 hok.2 hin9 ?_
              refine lv_iload B.1.1 B.1.2.1 dL_law_1064 (lv_at hl 0 rfl) ?_
              refine lv_i2l B.1.1 B.1.2.1 dL_law_1066 rfl ?_
              refine W.lcmp B.1.1 B.1.2.1 dL_law_1067 ?_
              refine lv_if_eq (tgt := 1073) B.1.1 B.1.2.1 dL_law_1068 (by decide) (fun hc => ?_) (fun hc => ?_)
              · replace hw := hw.1 hc
                refine lv_goto (tgt := 1442) B.1.1 B.1.2.1 dL_law_1073 (by decide) ?_
                refine lv_iinc (i := 5) (v := (m5 + (6 : Int32))) (lv' := [(5, .int (m5 + (6 : Int32))), (7, .int r38), (6, .int r37), (0, .ref b), (1, .ref c1), (2, .ref c2), (3, .ref c3), (4, .ref c4)]) B.1.1 B.1.2.1 dL_law_1442 hl (k := 7) rfl rfl (by decide) rfl (fun ls hl9 => ?_)
                replace hl := hl9
                clear hl9
                refine lv_goto (tgt := 28) B.1.1 B.1.2.1 dL_law_1445 (by decide) ?_
                exact ih (m5 + (6 : Int32)) _ _ _ ls _ _ (by omega) (by omega) h (lv_sub hl [3, 4, 5, 6, 7, 0] rfl) hw hk
              · replace hw := hw.2 hc
                refine lv_iconst (v := (0 : Int32)) B.1.1 B.1.2.1 dL_law_1071 (by decide) ?_
                exact False.elim hw
          · replace hw := hw.2 hc
            refine lv_iconst (v := (0 : Int32)) B.1.1 B.1.2.1 dL_law_1054 (by decide) ?_
            exact False.elim hw
        by_cases hk13 : xx = (13 : Int32)
        · replace hw := hw.2.2.2.2.2.2.2.2.2.2.2.2.2.1 hk13
          rw [hk13]
          refine lv_tableIn (off := 1031) (tgt := 1076) B.1.1 B.1.2.1 dL_law_45 (by decide) (by decide) (by decide) (by decide) ?_
          refine lv_aload_n B.1.1 B.1.2.1 dL_law_1076 rfl (lv_at hl 1 rfl) ?_
          refine lv_aload_n B.1.1 B.1.2.1 dL_law_1077 rfl (lv_at hl 0 rfl) ?_
          refine lv_iload B.1.1 B.1.2.1 dL_law_1078 (lv_at hl 5 rfl) ?_
          refine lv_iconst (v := (1 : Int32)) B.1.1 B.1.2.1 dL_law_1080 (by decide) ?_
          refine lv_iadd B.1.1 B.1.2.1 dL_law_1081 ?_
          obtain ⟨hin9, hw⟩ := hw
          refine va_sld B.1.1 B.1.2.1 hX hbl hbA h.2 hin9 dL_law_1082 ?_
          refine lv_aload_n B.1.1 B.1.2.1 dL_law_1083 rfl (lv_at hl 0 rfl) ?_
          refine lv_iload B.1.1 B.1.2.1 dL_law_1084 (lv_at hl 5 rfl) ?_
          refine lv_iconst (v := (2 : Int32)) B.1.1 B.1.2.1 dL_law_1086 (by decide) ?_
          refine lv_iadd B.1.1 B.1.2.1 dL_law_1087 ?_
          obtain ⟨hin9, hw⟩ := hw
          refine va_sld B.1.1 B.1.2.1 hX hbl hbA h.2 hin9 dL_law_1088 ?_
          refine lv_aload_n B.1.1 B.1.2.1 dL_law_1089 rfl (lv_at hl 0 rfl) ?_
          refine lv_iload B.1.1 B.1.2.1 dL_law_1090 (lv_at hl 5 rfl) ?_
          refine lv_iconst (v := (3 : Int32)) B.1.1 B.1.2.1 dL_law_1092 (by decide) ?_
          refine lv_iadd B.1.1 B.1.2.1 dL_law_1093 ?_
          obtain ⟨hin9, hw⟩ := hw
          refine va_sld B.1.1 B.1.2.1 hX hbl hbA h.2 hin9 dL_law_1094 ?_
          refine lv_aload_n B.1.1 B.1.2.1 dL_law_1095 rfl (lv_at hl 3 rfl) ?_
          refine q_callH B h (met_L_ink l hst (some c1) (xs (m5 + (1 : Int32)).toNatClampNeg) (xs (m5 + (2 : Int32)).toNatClampNeg) (xs (m5 + (3 : Int32)).toNatClampNeg) (some c3)) (CSW B 5 kC_L_ink kI_RL kM_RL_130 kS_L_ink hd_L_ink ⟨Nat.le_of_ble_eq_true rfl, Nat.le_of_ble_eq_true rfl⟩) (rest := []) rfl rfl hl.1 (Nat.le_of_ble_eq_true rfl) dL_law_1096 ⟨(by show _ ≤ 601024; omega), (by show _ ≤ 7293034; omega)⟩ hw (fun r40 S46 H locs hw9 h9 => ?_)
          replace hw := hw9
          clear hw9
          replace h := h9
          clear h9
          refine lv_istore (i := 6) (lv' := [(6, .int r40), (0, .ref b), (1, .ref c1), (2, .ref c2), (3, .ref c3), (4, .ref c4), (5, .int m5)]) B.1.1 B.1.2.1 dL_law_1099 hl (by decide) rfl (fun ls hl9 => ?_)
          replace hl := hl9
          clear hl9
          refine lv_aload_n B.1.1 B.1.2.1 dL_law_1101 rfl (lv_at hl 3 rfl) ?_
          refine lv_aload_n B.1.1 B.1.2.1 dL_law_1102 rfl (lv_at hl 1 rfl) ?_
          refine lv_iload B.1.1 B.1.2.1 dL_law_1103 (lv_at hl 6 rfl) ?_
          refine lv_iconst (v := (1 : Int32)) B.1.1 B.1.2.1 dL_law_1105 (by decide) ?_
          refine lv_iadd B.1.1 B.1.2.1 dL_law_1106 ?_
          obtain ⟨hin9, hw⟩ := hw
          refine va_sld B.1.1 B.1.2.1 hX hbl hbA h.2 hin9 dL_law_1107 ?_
          refine lv_aload_n B.1.1 B.1.2.1 dL_law_1108 rfl (lv_at hl 1 rfl) ?_
          refine lv_iload B.1.1 B.1.2.1 dL_law_1109 (lv_at hl 6 rfl) ?_
          refine lv_iconst (v := (2 : Int32)) B.1.1 B.1.2.1 dL_law_1111 (by decide) ?_
          refine lv_iadd B.1.1 B.1.2.1 dL_law_1112 ?_
          obtain ⟨hin9, hw⟩ := hw
          refine va_sld B.1.1 B.1.2.1 hX hbl hbA h.2 hin9 dL_law_1113 ?_
          refine lv_aload_n B.1.1 B.1.2.1 dL_law_1114 rfl (lv_at hl 1 rfl) ?_
          refine lv_iload B.1.1 B.1.2.1 dL_law_1115 (lv_at hl 6 rfl) ?_
          refine lv_iconst (v := (3 : Int32)) B.1.1 B.1.2.1 dL_law_1117 (by decide) ?_
          refine lv_iadd B.1.1 B.1.2.1 dL_law_1118 ?_
          obtain ⟨hin9, hw⟩ := hw
          refine va_sld B.1.1 B.1.2.1 hX hbl hbA h.2 hin9 dL_law_1119 ?_
          obtain ⟨hok, hw⟩ := hw
          refine q_callIV B h (met_X5_ink l c2 (xs (m5 + (1 : Int32)).toNatClampNeg) (xs (m5 + (2 : Int32)).toNatClampNeg) (xs (m5 + (3 : Int32)).toNatClampNeg)) (CB B 3 kC_X5_ink kI_RX5 kM_RL_132 hd_X5_ink ⟨Nat.le_of_ble_eq_true rfl, Nat.le_of_ble_eq_true rfl⟩) kO_X5_ink kV_X5_ink (ci := 5) rfl (by decide) hok.1 hok.2 (rest := []) rfl rfl hl.1 (Nat.le_of_ble_eq_true rfl) dL_law_1120 ⟨(by show _ ≤ 601024; omega), (by show _ ≤ 7293034; omega)⟩ hw (fun r41 S47 H locs hw9 h9 => ?_)
          replace hw := hw9
          clear hw9
          replace h := h9
          clear h9
          refine lv_istore (i := 7) (lv' := [(7, .int r41), (6, .int r40), (0, .ref b), (1, .ref c1), (2, .ref c2), (3, .ref c3), (4, .ref c4), (5, .int m5)]) B.1.1 B.1.2.1 dL_law_1123 hl (by decide) rfl (fun ls hl9 => ?_)
          replace hl := hl9
          clear hl9
          refine lv_aload_n B.1.1 B.1.2.1 dL_law_1125 rfl (lv_at hl 4 rfl) ?_
          obtain ⟨hok, hw⟩ := hw
          refine q_callIV B h (met_X5_thrown l c2) (CB B 0 kC_X5_thrown kI_RX5 kM_RL_86 hd_X5_thrown ⟨Nat.le_of_ble_eq_true rfl, Nat.le_of_ble_eq_true rfl⟩) kO_X5_thrown kV_X5_thrown (ci := 5) rfl (by decide) hok.1 hok.2 (rest := []) rfl rfl hl.1 (Nat.le_of_ble_eq_true rfl) dL_law_1126 ⟨(by show _ ≤ 601024; omega), (by show _ ≤ 7293034; omega)⟩ hw (fun r42 S48 H locs hw9 h9 => ?_)
          replace hw := hw9
          clear hw9
          replace h := h9
          clear h9
          refine lv_iload B.1.1 B.1.2.1 dL_law_1129 (lv_at hl 1 rfl) ?_
          refine lv_icmp_eq (tgt := 1136) B.1.1 B.1.2.1 dL_law_1131 (by decide) (fun hc => ?_) (fun hc => ?_)
          · replace hw := hw.1 hc
            refine lv_iload B.1.1 B.1.2.1 dL_law_1136 (lv_at hl 1 rfl) ?_
            refine lv_if_ne (tgt := 1153) B.1.1 B.1.2.1 dL_law_1138 (by decide) (fun hc => ?_) (fun hc => ?_)
            · replace hw := hw.1 hc
              refine lv_goto (tgt := 1442) B.1.1 B.1.2.1 dL_law_1153 (by decide) ?_
              refine lv_iinc (i := 5) (v := (m5 + (6 : Int32))) (lv' := [(5, .int (m5 + (6 : Int32))), (7, .int r41), (6, .int r40), (0, .ref b), (1, .ref c1), (2, .ref c2), (3, .ref c3), (4, .ref c4)]) B.1.1 B.1.2.1 dL_law_1442 hl (k := 7) rfl rfl (by decide) rfl (fun ls hl9 => ?_)
              replace hl := hl9
              clear hl9
              refine lv_goto (tgt := 28) B.1.1 B.1.2.1 dL_law_1445 (by decide) ?_
              exact ih (m5 + (6 : Int32)) _ _ _ ls _ _ (by omega) (by omega) h (lv_sub hl [3, 4, 5, 6, 7, 0] rfl) hw hk
            · replace hw := hw.2 hc
              refine lv_aload_n B.1.1 B.1.2.1 dL_law_1141 rfl (lv_at hl 5 rfl) ?_
              refine lv_iconst (v := (0 : Int32)) B.1.1 B.1.2.1 dL_law_1142 (by decide) ?_
              obtain ⟨hok, hin9, hw⟩ := hw
              refine q_lald B h dL_law_1143 hok.1 hok.2 hin9 ?_
              refine lv_iload B.1.1 B.1.2.1 dL_law_1144 (lv_at hl 0 rfl) ?_
              refine lv_i2l B.1.1 B.1.2.1 dL_law_1146 rfl ?_
              refine W.lcmp B.1.1 B.1.2.1 dL_law_1147 ?_
              refine lv_if_eq (tgt := 1153) B.1.1 B.1.2.1 dL_law_1148 (by decide) (fun hc => ?_) (fun hc => ?_)
              · replace hw := hw.1 hc
                refine lv_goto (tgt := 1442) B.1.1 B.1.2.1 dL_law_1153 (by decide) ?_
                refine lv_iinc (i := 5) (v := (m5 + (6 : Int32))) (lv' := [(5, .int (m5 + (6 : Int32))), (7, .int r41), (6, .int r40), (0, .ref b), (1, .ref c1), (2, .ref c2), (3, .ref c3), (4, .ref c4)]) B.1.1 B.1.2.1 dL_law_1442 hl (k := 7) rfl rfl (by decide) rfl (fun ls hl9 => ?_)
                replace hl := hl9
                clear hl9
                refine lv_goto (tgt := 28) B.1.1 B.1.2.1 dL_law_1445 (by decide) ?_
                exact ih (m5 + (6 : Int32)) _ _ _ ls _ _ (by omega) (by omega) h (lv_sub hl [3, 4, 5, 6, 7, 0] rfl) hw hk
              · replace hw := hw.2 hc
                refine lv_iconst (v := (0 : Int32)) B.1.1 B.1.2.1 dL_law_1151 (by decide) ?_
                exact False.elim hw
          · replace hw := hw.2 hc
            refine lv_iconst (v := (0 : Int32)) B.1.1 B.1.2.1 dL_law_1134 (by decide) ?_
            exact False.elim hw
        by_cases hk14 : xx = (14 : Int32)
        · replace hw := hw.2.2.2.2.2.2.2.2.2.2.2.2.2.2.1 hk14
          rw [hk14]
          refine lv_tableIn (off := 1111) (tgt := 1156) B.1.1 B.1.2.1 dL_law_45 (by decide) (by decide) (by decide) (by decide) ?_
          refine lv_aload_n B.1.1 B.1.2.1 dL_law_1156 rfl (lv_at hl 1 rfl) ?_
          refine lv_aload_n B.1.1 B.1.2.1 dL_law_1157 rfl (lv_at hl 0 rfl) ?_
          refine lv_iload B.1.1 B.1.2.1 dL_law_1158 (lv_at hl 5 rfl) ?_
          refine lv_iconst (v := (1 : Int32)) B.1.1 B.1.2.1 dL_law_1160 (by decide) ?_
          refine lv_iadd B.1.1 B.1.2.1 dL_law_1161 ?_
          obtain ⟨hin9, hw⟩ := hw
          refine va_sld B.1.1 B.1.2.1 hX hbl hbA h.2 hin9 dL_law_1162 ?_
          refine lv_aload_n B.1.1 B.1.2.1 dL_law_1163 rfl (lv_at hl 3 rfl) ?_
          refine q_callH B h (met_L_spilt l hst (some c1) (xs (m5 + (1 : Int32)).toNatClampNeg) (some c3)) (CSW B 3 kC_L_spilt kI_RL kM_RL_133 kS_L_spilt hd_L_spilt ⟨Nat.le_of_ble_eq_true rfl, Nat.le_of_ble_eq_true rfl⟩) (rest := []) rfl rfl hl.1 (Nat.le_of_ble_eq_true rfl) dL_law_1164 ⟨(by show _ ≤ 601024; omega), (by show _ ≤ 7293034; omega)⟩ hw (fun r43 S49 H locs hw9 h9 => ?_)
          replace hw := hw9
          clear hw9
          replace h := h9
          clear h9
          refine lv_istore (i := 6) (lv' := [(6, .int r43), (0, .ref b), (1, .ref c1), (2, .ref c2), (3, .ref c3), (4, .ref c4), (5, .int m5)]) B.1.1 B.1.2.1 dL_law_1167 hl (by decide) rfl (fun ls hl9 => ?_)
          replace hl := hl9
          clear hl9
          refine lv_aload_n B.1.1 B.1.2.1 dL_law_1169 rfl (lv_at hl 3 rfl) ?_
          refine lv_aload_n B.1.1 B.1.2.1 dL_law_1170 rfl (lv_at hl 1 rfl) ?_
          refine lv_iload B.1.1 B.1.2.1 dL_law_1171 (lv_at hl 6 rfl) ?_
          refine lv_iconst (v := (1 : Int32)) B.1.1 B.1.2.1 dL_law_1173 (by decide) ?_
          refine lv_iadd B.1.1 B.1.2.1 dL_law_1174 ?_
          obtain ⟨hin9, hw⟩ := hw
          refine va_sld B.1.1 B.1.2.1 hX hbl hbA h.2 hin9 dL_law_1175 ?_
          obtain ⟨hok, hw⟩ := hw
          refine q_callIV B h (met_X5_spilt l c2 (xs (m5 + (1 : Int32)).toNatClampNeg)) (CB B 1 kC_X5_spilt kI_RX5 kM_RL_135 hd_X5_spilt ⟨Nat.le_of_ble_eq_true rfl, Nat.le_of_ble_eq_true rfl⟩) kO_X5_spilt kV_X5_spilt (ci := 5) rfl (by decide) hok.1 hok.2 (rest := []) rfl rfl hl.1 (Nat.le_of_ble_eq_true rfl) dL_law_1176 ⟨(by show _ ≤ 601024; omega), (by show _ ≤ 7293034; omega)⟩ hw (fun r44 S50 H locs hw9 h9 => ?_)
          replace hw := hw9
          clear hw9
          replace h := h9
          clear h9
          refine lv_istore (i := 7) (lv' := [(7, .int r44), (6, .int r43), (0, .ref b), (1, .ref c1), (2, .ref c2), (3, .ref c3), (4, .ref c4), (5, .int m5)]) B.1.1 B.1.2.1 dL_law_1179 hl (by decide) rfl (fun ls hl9 => ?_)
          replace hl := hl9
          clear hl9
          refine lv_aload_n B.1.1 B.1.2.1 dL_law_1181 rfl (lv_at hl 4 rfl) ?_
          obtain ⟨hok, hw⟩ := hw
          refine q_callIV B h (met_X5_thrown l c2) (CB B 0 kC_X5_thrown kI_RX5 kM_RL_86 hd_X5_thrown ⟨Nat.le_of_ble_eq_true rfl, Nat.le_of_ble_eq_true rfl⟩) kO_X5_thrown kV_X5_thrown (ci := 5) rfl (by decide) hok.1 hok.2 (rest := []) rfl rfl hl.1 (Nat.le_of_ble_eq_true rfl) dL_law_1182 ⟨(by show _ ≤ 601024; omega), (by show _ ≤ 7293034; omega)⟩ hw (fun r45 S51 H locs hw9 h9 => ?_)
          replace hw := hw9
          clear hw9
          replace h := h9
          clear h9
          refine lv_iload B.1.1 B.1.2.1 dL_law_1185 (lv_at hl 1 rfl) ?_
          refine lv_icmp_eq (tgt := 1192) B.1.1 B.1.2.1 dL_law_1187 (by decide) (fun hc => ?_) (fun hc => ?_)
          · replace hw := hw.1 hc
            refine lv_iload B.1.1 B.1.2.1 dL_law_1192 (lv_at hl 1 rfl) ?_
            refine lv_if_ne (tgt := 1209) B.1.1 B.1.2.1 dL_law_1194 (by decide) (fun hc => ?_) (fun hc => ?_)
            · replace hw := hw.1 hc
              refine lv_goto (tgt := 1442) B.1.1 B.1.2.1 dL_law_1209 (by decide) ?_
              refine lv_iinc (i := 5) (v := (m5 + (6 : Int32))) (lv' := [(5, .int (m5 + (6 : Int32))), (7, .int r44), (6, .int r43), (0, .ref b), (1, .ref c1), (2, .ref c2), (3, .ref c3), (4, .ref c4)]) B.1.1 B.1.2.1 dL_law_1442 hl (k := 7) rfl rfl (by decide) rfl (fun ls hl9 => ?_)
              replace hl := hl9
              clear hl9
              refine lv_goto (tgt := 28) B.1.1 B.1.2.1 dL_law_1445 (by decide) ?_
              exact ih (m5 + (6 : Int32)) _ _ _ ls _ _ (by omega) (by omega) h (lv_sub hl [3, 4, 5, 6, 7, 0] rfl) hw hk
            · replace hw := hw.2 hc
              refine lv_aload_n B.1.1 B.1.2.1 dL_law_1197 rfl (lv_at hl 5 rfl) ?_
              refine lv_iconst (v := (0 : Int32)) B.1.1 B.1.2.1 dL_law_1198 (by decide) ?_
              obtain ⟨hok, hin9, hw⟩ := hw
              refine q_lald B h dL_law_1199 hok.1 hok.2 hin9 ?_
              refine lv_iload B.1.1 B.1.2.1 dL_law_1200 (lv_at hl 0 rfl) ?_
              refine lv_i2l B.1.1 B.1.2.1 dL_law_1202 rfl ?_
              refine W.lcmp B.1.1 B.1.2.1 dL_law_1203 ?_
              refine lv_if_eq (tgt := 1209) B.1.1 B.1.2.1 dL_law_1204 (by decide) (fun hc => ?_) (fun hc => ?_)
              · replace hw := hw.1 hc
                refine lv_goto (tgt := 1442) B.1.1 B.1.2.1 dL_law_1209 (by decide) ?_
                refine lv_iinc (i := 5) (v := (m5 + (6 : Int32))) (lv' := [(5, .int (m5 + (6 : Int32))), (7, .int r44), (6, .int r43), (0, .ref b), (1, .ref c1), (2, .ref c2), (3, .ref c3), (4, .ref c4)]) B.1.1 B.1.2.1 dL_law_1442 hl (k := 7) rfl rfl (by decide) rfl (fun ls hl9 => ?_)
                replace hl := hl9
                clear hl9
                refine lv_goto (tgt := 28) B.1.1 B.1.2.1 dL_law_1445 (by decide) ?_
                exact ih (m5 + (6 : Int32)) _ _ _ ls _ _ (by omega) (by omega) h (lv_sub hl [3, 4, 5, 6, 7, 0] rfl) hw hk
              · replace hw := hw.2 hc
                refine lv_iconst (v := (0 : Int32)) B.1.1 B.1.2.1 dL_law_1207 (by decide) ?_
                exact False.elim hw
          · replace hw := hw.2 hc
            refine lv_iconst (v := (0 : Int32)) B.1.1 B.1.2.1 dL_law_1190 (by decide) ?_
            exact False.elim hw
        by_cases hk15 : xx = (15 : Int32)
        · replace hw := hw.2.2.2.2.2.2.2.2.2.2.2.2.2.2.2.1 hk15
          rw [hk15]
          refine lv_tableIn (off := 1167) (tgt := 1212) B.1.1 B.1.2.1 dL_law_45 (by decide) (by decide) (by decide) (by decide) ?_
          refine lv_aload_n B.1.1 B.1.2.1 dL_law_1212 rfl (lv_at hl 1 rfl) ?_
          refine lv_aload_n B.1.1 B.1.2.1 dL_law_1213 rfl (lv_at hl 0 rfl) ?_
          refine lv_iload B.1.1 B.1.2.1 dL_law_1214 (lv_at hl 5 rfl) ?_
          refine lv_iconst (v := (1 : Int32)) B.1.1 B.1.2.1 dL_law_1216 (by decide) ?_
          refine lv_iadd B.1.1 B.1.2.1 dL_law_1217 ?_
          obtain ⟨hin9, hw⟩ := hw
          refine va_sld B.1.1 B.1.2.1 hX hbl hbA h.2 hin9 dL_law_1218 ?_
          refine lv_if_eq (tgt := 1226) B.1.1 B.1.2.1 dL_law_1219 (by decide) (fun hc => ?_) (fun hc => ?_)
          · replace hw := hw.1 hc
            refine lv_iconst (v := (0 : Int32)) B.1.1 B.1.2.1 dL_law_1226 (by decide) ?_
            refine lv_aload_n B.1.1 B.1.2.1 dL_law_1227 rfl (lv_at hl 0 rfl) ?_
            refine lv_iload B.1.1 B.1.2.1 dL_law_1228 (lv_at hl 5 rfl) ?_
            refine lv_iconst (v := (2 : Int32)) B.1.1 B.1.2.1 dL_law_1230 (by decide) ?_
            refine lv_iadd B.1.1 B.1.2.1 dL_law_1231 ?_
            obtain ⟨hin9, hw⟩ := hw
            refine va_sld B.1.1 B.1.2.1 hX hbl hbA h.2 hin9 dL_law_1232 ?_
            refine lv_aload_n B.1.1 B.1.2.1 dL_law_1233 rfl (lv_at hl 3 rfl) ?_
            refine q_callH B h (met_L_used l hst (some c1) (0 : Int32) (xs (m5 + (2 : Int32)).toNatClampNeg) (some c3)) (CSW B 4 kC_L_used kI_RL kM_RL_136 kS_L_used hd_L_used ⟨Nat.le_of_ble_eq_true rfl, Nat.le_of_ble_eq_true rfl⟩) (rest := []) rfl rfl hl.1 (Nat.le_of_ble_eq_true rfl) dL_law_1234 ⟨(by show _ ≤ 601024; omega), (by show _ ≤ 7293034; omega)⟩ hw (fun r46 S52 H locs hw9 h9 => ?_)
            replace hw := hw9
            clear hw9
            replace h := h9
            clear h9
            refine lv_istore (i := 6) (lv' := [(6, .int r46), (0, .ref b), (1, .ref c1), (2, .ref c2), (3, .ref c3), (4, .ref c4), (5, .int m5)]) B.1.1 B.1.2.1 dL_law_1237 hl (by decide) rfl (fun ls hl9 => ?_)
            replace hl := hl9
            clear hl9
            refine lv_aload_n B.1.1 B.1.2.1 dL_law_1239 rfl (lv_at hl 3 rfl) ?_
            refine lv_aload_n B.1.1 B.1.2.1 dL_law_1240 rfl (lv_at hl 1 rfl) ?_
            refine lv_iload B.1.1 B.1.2.1 dL_law_1241 (lv_at hl 6 rfl) ?_
            refine lv_iconst (v := (1 : Int32)) B.1.1 B.1.2.1 dL_law_1243 (by decide) ?_
            refine lv_iadd B.1.1 B.1.2.1 dL_law_1244 ?_
            obtain ⟨hin9, hw⟩ := hw
            refine va_sld B.1.1 B.1.2.1 hX hbl hbA h.2 hin9 dL_law_1245 ?_
            refine lv_if_eq (tgt := 1253) B.1.1 B.1.2.1 dL_law_1246 (by decide) (fun hc => ?_) (fun hc => ?_)
            · replace hw := hw.1 hc
              refine lv_iconst (v := (0 : Int32)) B.1.1 B.1.2.1 dL_law_1253 (by decide) ?_
              refine lv_aload_n B.1.1 B.1.2.1 dL_law_1254 rfl (lv_at hl 1 rfl) ?_
              refine lv_iload B.1.1 B.1.2.1 dL_law_1255 (lv_at hl 6 rfl) ?_
              refine lv_iconst (v := (2 : Int32)) B.1.1 B.1.2.1 dL_law_1257 (by decide) ?_
              refine lv_iadd B.1.1 B.1.2.1 dL_law_1258 ?_
              obtain ⟨hin9, hw⟩ := hw
              refine va_sld B.1.1 B.1.2.1 hX hbl hbA h.2 hin9 dL_law_1259 ?_
              obtain ⟨hok, hw⟩ := hw
              refine q_callIV B h (met_X5_used l c2 (0 : Int32) (xs (m5 + (2 : Int32)).toNatClampNeg)) (CB B 2 kC_X5_used kI_RX5 kM_RL_139 hd_X5_used ⟨Nat.le_of_ble_eq_true rfl, Nat.le_of_ble_eq_true rfl⟩) kO_X5_used kV_X5_used (ci := 5) rfl (by decide) hok.1 hok.2 (rest := []) rfl rfl hl.1 (Nat.le_of_ble_eq_true rfl) dL_law_1260 ⟨(by show _ ≤ 601024; omega), (by show _ ≤ 7293034; omega)⟩ hw (fun r47 S53 H locs hw9 h9 => ?_)
              replace hw := hw9
              clear hw9
              replace h := h9
              clear h9
              refine lv_istore (i := 7) (lv' := [(7, .int r47), (6, .int r46), (0, .ref b), (1, .ref c1), (2, .ref c2), (3, .ref c3), (4, .ref c4), (5, .int m5)]) B.1.1 B.1.2.1 dL_law_1263 hl (by decide) rfl (fun ls hl9 => ?_)
              replace hl := hl9
              clear hl9
              refine lv_aload_n B.1.1 B.1.2.1 dL_law_1265 rfl (lv_at hl 4 rfl) ?_
              obtain ⟨hok, hw⟩ := hw
              refine q_callIV B h (met_X5_thrown l c2) (CB B 0 kC_X5_thrown kI_RX5 kM_RL_86 hd_X5_thrown ⟨Nat.le_of_ble_eq_true rfl, Nat.le_of_ble_eq_true rfl⟩) kO_X5_thrown kV_X5_thrown (ci := 5) rfl (by decide) hok.1 hok.2 (rest := []) rfl rfl hl.1 (Nat.le_of_ble_eq_true rfl) dL_law_1266 ⟨(by show _ ≤ 601024; omega), (by show _ ≤ 7293034; omega)⟩ hw (fun r48 S54 H locs hw9 h9 => ?_)
              replace hw := hw9
              clear hw9
              replace h := h9
              clear h9
              refine lv_iload B.1.1 B.1.2.1 dL_law_1269 (lv_at hl 1 rfl) ?_
              refine lv_icmp_eq (tgt := 1276) B.1.1 B.1.2.1 dL_law_1271 (by decide) (fun hc => ?_) (fun hc => ?_)
              · replace hw := hw.1 hc
                refine lv_iload B.1.1 B.1.2.1 dL_law_1276 (lv_at hl 1 rfl) ?_
                refine lv_if_ne (tgt := 1293) B.1.1 B.1.2.1 dL_law_1278 (by decide) (fun hc => ?_) (fun hc => ?_)
                · replace hw := hw.1 hc
                  refine lv_goto (tgt := 1442) B.1.1 B.1.2.1 dL_law_1293 (by decide) ?_
                  refine lv_iinc (i := 5) (v := (m5 + (6 : Int32))) (lv' := [(5, .int (m5 + (6 : Int32))), (7, .int r47), (6, .int r46), (0, .ref b), (1, .ref c1), (2, .ref c2), (3, .ref c3), (4, .ref c4)]) B.1.1 B.1.2.1 dL_law_1442 hl (k := 7) rfl rfl (by decide) rfl (fun ls hl9 => ?_)
                  replace hl := hl9
                  clear hl9
                  refine lv_goto (tgt := 28) B.1.1 B.1.2.1 dL_law_1445 (by decide) ?_
                  exact ih (m5 + (6 : Int32)) _ _ _ ls _ _ (by omega) (by omega) h (lv_sub hl [3, 4, 5, 6, 7, 0] rfl) hw hk
                · replace hw := hw.2 hc
                  refine lv_aload_n B.1.1 B.1.2.1 dL_law_1281 rfl (lv_at hl 5 rfl) ?_
                  refine lv_iconst (v := (0 : Int32)) B.1.1 B.1.2.1 dL_law_1282 (by decide) ?_
                  obtain ⟨hok, hin9, hw⟩ := hw
                  refine q_lald B h dL_law_1283 hok.1 hok.2 hin9 ?_
                  refine lv_iload B.1.1 B.1.2.1 dL_law_1284 (lv_at hl 0 rfl) ?_
                  refine lv_i2l B.1.1 B.1.2.1 dL_law_1286 rfl ?_
                  refine W.lcmp B.1.1 B.1.2.1 dL_law_1287 ?_
                  refine lv_if_eq (tgt := 1293) B.1.1 B.1.2.1 dL_law_1288 (by decide) (fun hc => ?_) (fun hc => ?_)
                  · replace hw := hw.1 hc
                    refine lv_goto (tgt := 1442) B.1.1 B.1.2.1 dL_law_1293 (by decide) ?_
                    refine lv_iinc (i := 5) (v := (m5 + (6 : Int32))) (lv' := [(5, .int (m5 + (6 : Int32))), (7, .int r47), (6, .int r46), (0, .ref b), (1, .ref c1), (2, .ref c2), (3, .ref c3), (4, .ref c4)]) B.1.1 B.1.2.1 dL_law_1442 hl (k := 7) rfl rfl (by decide) rfl (fun ls hl9 => ?_)
                    replace hl := hl9
                    clear hl9
                    refine lv_goto (tgt := 28) B.1.1 B.1.2.1 dL_law_1445 (by decide) ?_
                    exact ih (m5 + (6 : Int32)) _ _ _ ls _ _ (by omega) (by omega) h (lv_sub hl [3, 4, 5, 6, 7, 0] rfl) hw hk
                  · replace hw := hw.2 hc
                    refine lv_iconst (v := (0 : Int32)) B.1.1 B.1.2.1 dL_law_1291 (by decide) ?_
                    exact False.elim hw
              · replace hw := hw.2 hc
                refine lv_iconst (v := (0 : Int32)) B.1.1 B.1.2.1 dL_law_1274 (by decide) ?_
                exact False.elim hw
            · replace hw := hw.2 hc
              refine lv_iconst (v := (1 : Int32)) B.1.1 B.1.2.1 dL_law_1249 (by decide) ?_
              refine lv_goto (tgt := 1254) B.1.1 B.1.2.1 dL_law_1250 (by decide) ?_
              refine lv_aload_n B.1.1 B.1.2.1 dL_law_1254 rfl (lv_at hl 1 rfl) ?_
              refine lv_iload B.1.1 B.1.2.1 dL_law_1255 (lv_at hl 6 rfl) ?_
              refine lv_iconst (v := (2 : Int32)) B.1.1 B.1.2.1 dL_law_1257 (by decide) ?_
              refine lv_iadd B.1.1 B.1.2.1 dL_law_1258 ?_
              obtain ⟨hin9, hw⟩ := hw
              refine va_sld B.1.1 B.1.2.1 hX hbl hbA h.2 hin9 dL_law_1259 ?_
              obtain ⟨hok, hw⟩ := hw
              refine q_callIV B h (met_X5_used l c2 (1 : Int32) (xs (m5 + (2 : Int32)).toNatClampNeg)) (CB B 2 kC_X5_used kI_RX5 kM_RL_139 hd_X5_used ⟨Nat.le_of_ble_eq_true rfl, Nat.le_of_ble_eq_true rfl⟩) kO_X5_used kV_X5_used (ci := 5) rfl (by decide) hok.1 hok.2 (rest := []) rfl rfl hl.1 (Nat.le_of_ble_eq_true rfl) dL_law_1260 ⟨(by show _ ≤ 601024; omega), (by show _ ≤ 7293034; omega)⟩ hw (fun r49 S55 H locs hw9 h9 => ?_)
              replace hw := hw9
              clear hw9
              replace h := h9
              clear h9
              refine lv_istore (i := 7) (lv' := [(7, .int r49), (6, .int r46), (0, .ref b), (1, .ref c1), (2, .ref c2), (3, .ref c3), (4, .ref c4), (5, .int m5)]) B.1.1 B.1.2.1 dL_law_1263 hl (by decide) rfl (fun ls hl9 => ?_)
              replace hl := hl9
              clear hl9
              refine lv_aload_n B.1.1 B.1.2.1 dL_law_1265 rfl (lv_at hl 4 rfl) ?_
              obtain ⟨hok, hw⟩ := hw
              refine q_callIV B h (met_X5_thrown l c2) (CB B 0 kC_X5_thrown kI_RX5 kM_RL_86 hd_X5_thrown ⟨Nat.le_of_ble_eq_true rfl, Nat.le_of_ble_eq_true rfl⟩) kO_X5_thrown kV_X5_thrown (ci := 5) rfl (by decide) hok.1 hok.2 (rest := []) rfl rfl hl.1 (Nat.le_of_ble_eq_true rfl) dL_law_1266 ⟨(by show _ ≤ 601024; omega), (by show _ ≤ 7293034; omega)⟩ hw (fun r50 S56 H locs hw9 h9 => ?_)
              replace hw := hw9
              clear hw9
              replace h := h9
              clear h9
              refine lv_iload B.1.1 B.1.2.1 dL_law_1269 (lv_at hl 1 rfl) ?_
              refine lv_icmp_eq (tgt := 1276) B.1.1 B.1.2.1 dL_law_1271 (by decide) (fun hc => ?_) (fun hc => ?_)
              · replace hw := hw.1 hc
                refine lv_iload B.1.1 B.1.2.1 dL_law_1276 (lv_at hl 1 rfl) ?_
                refine lv_if_ne (tgt := 1293) B.1.1 B.1.2.1 dL_law_1278 (by decide) (fun hc => ?_) (fun hc => ?_)
                · replace hw := hw.1 hc
                  refine lv_goto (tgt := 1442) B.1.1 B.1.2.1 dL_law_1293 (by decide) ?_
                  refine lv_iinc (i := 5) (v := (m5 + (6 : Int32))) (lv' := [(5, .int (m5 + (6 : Int32))), (7, .int r49), (6, .int r46), (0, .ref b), (1, .ref c1), (2, .ref c2), (3, .ref c3), (4, .ref c4)]) B.1.1 B.1.2.1 dL_law_1442 hl (k := 7) rfl rfl (by decide) rfl (fun ls hl9 => ?_)
                  replace hl := hl9
                  clear hl9
                  refine lv_goto (tgt := 28) B.1.1 B.1.2.1 dL_law_1445 (by decide) ?_
                  exact ih (m5 + (6 : Int32)) _ _ _ ls _ _ (by omega) (by omega) h (lv_sub hl [3, 4, 5, 6, 7, 0] rfl) hw hk
                · replace hw := hw.2 hc
                  refine lv_aload_n B.1.1 B.1.2.1 dL_law_1281 rfl (lv_at hl 5 rfl) ?_
                  refine lv_iconst (v := (0 : Int32)) B.1.1 B.1.2.1 dL_law_1282 (by decide) ?_
                  obtain ⟨hok, hin9, hw⟩ := hw
                  refine q_lald B h dL_law_1283 hok.1 hok.2 hin9 ?_
                  refine lv_iload B.1.1 B.1.2.1 dL_law_1284 (lv_at hl 0 rfl) ?_
                  refine lv_i2l B.1.1 B.1.2.1 dL_law_1286 rfl ?_
                  refine W.lcmp B.1.1 B.1.2.1 dL_law_1287 ?_
                  refine lv_if_eq (tgt := 1293) B.1.1 B.1.2.1 dL_law_1288 (by decide) (fun hc => ?_) (fun hc => ?_)
                  · replace hw := hw.1 hc
                    refine lv_goto (tgt := 1442) B.1.1 B.1.2.1 dL_law_1293 (by decide) ?_
                    refine lv_iinc (i := 5) (v := (m5 + (6 : Int32))) (lv' := [(5, .int (m5 + (6 : Int32))), (7, .int r49), (6, .int r46), (0, .ref b), (1, .ref c1), (2, .ref c2), (3, .ref c3), (4, .ref c4)]) B.1.1 B.1.2.1 dL_law_1442 hl (k := 7) rfl rfl (by decide) rfl (fun ls hl9 => ?_)
                    replace hl := hl9
                    clear hl9
                    refine lv_goto (tgt := 28) B.1.1 B.1.2.1 dL_law_1445 (by decide) ?_
                    exact ih (m5 + (6 : Int32)) _ _ _ ls _ _ (by omega) (by omega) h (lv_sub hl [3, 4, 5, 6, 7, 0] rfl) hw hk
                  · replace hw := hw.2 hc
                    refine lv_iconst (v := (0 : Int32)) B.1.1 B.1.2.1 dL_law_1291 (by decide) ?_
                    exact False.elim hw
              · replace hw := hw.2 hc
                refine lv_iconst (v := (0 : Int32)) B.1.1 B.1.2.1 dL_law_1274 (by decide) ?_
                exact False.elim hw
          · replace hw := hw.2 hc
            refine lv_iconst (v := (1 : Int32)) B.1.1 B.1.2.1 dL_law_1222 (by decide) ?_
            refine lv_goto (tgt := 1227) B.1.1 B.1.2.1 dL_law_1223 (by decide) ?_
            refine lv_aload_n B.1.1 B.1.2.1 dL_law_1227 rfl (lv_at hl 0 rfl) ?_
            refine lv_iload B.1.1 B.1.2.1 dL_law_1228 (lv_at hl 5 rfl) ?_
            refine lv_iconst (v := (2 : Int32)) B.1.1 B.1.2.1 dL_law_1230 (by decide) ?_
            refine lv_iadd B.1.1 B.1.2.1 dL_law_1231 ?_
            obtain ⟨hin9, hw⟩ := hw
            refine va_sld B.1.1 B.1.2.1 hX hbl hbA h.2 hin9 dL_law_1232 ?_
            refine lv_aload_n B.1.1 B.1.2.1 dL_law_1233 rfl (lv_at hl 3 rfl) ?_
            refine q_callH B h (met_L_used l hst (some c1) (1 : Int32) (xs (m5 + (2 : Int32)).toNatClampNeg) (some c3)) (CSW B 4 kC_L_used kI_RL kM_RL_136 kS_L_used hd_L_used ⟨Nat.le_of_ble_eq_true rfl, Nat.le_of_ble_eq_true rfl⟩) (rest := []) rfl rfl hl.1 (Nat.le_of_ble_eq_true rfl) dL_law_1234 ⟨(by show _ ≤ 601024; omega), (by show _ ≤ 7293034; omega)⟩ hw (fun r51 S57 H locs hw9 h9 => ?_)
            replace hw := hw9
            clear hw9
            replace h := h9
            clear h9
            refine lv_istore (i := 6) (lv' := [(6, .int r51), (0, .ref b), (1, .ref c1), (2, .ref c2), (3, .ref c3), (4, .ref c4), (5, .int m5)]) B.1.1 B.1.2.1 dL_law_1237 hl (by decide) rfl (fun ls hl9 => ?_)
            replace hl := hl9
            clear hl9
            refine lv_aload_n B.1.1 B.1.2.1 dL_law_1239 rfl (lv_at hl 3 rfl) ?_
            refine lv_aload_n B.1.1 B.1.2.1 dL_law_1240 rfl (lv_at hl 1 rfl) ?_
            refine lv_iload B.1.1 B.1.2.1 dL_law_1241 (lv_at hl 6 rfl) ?_
            refine lv_iconst (v := (1 : Int32)) B.1.1 B.1.2.1 dL_law_1243 (by decide) ?_
            refine lv_iadd B.1.1 B.1.2.1 dL_law_1244 ?_
            obtain ⟨hin9, hw⟩ := hw
            refine va_sld B.1.1 B.1.2.1 hX hbl hbA h.2 hin9 dL_law_1245 ?_
            refine lv_if_eq (tgt := 1253) B.1.1 B.1.2.1 dL_law_1246 (by decide) (fun hc => ?_) (fun hc => ?_)
            · replace hw := hw.1 hc
              refine lv_iconst (v := (0 : Int32)) B.1.1 B.1.2.1 dL_law_1253 (by decide) ?_
              refine lv_aload_n B.1.1 B.1.2.1 dL_law_1254 rfl (lv_at hl 1 rfl) ?_
              refine lv_iload B.1.1 B.1.2.1 dL_law_1255 (lv_at hl 6 rfl) ?_
              refine lv_iconst (v := (2 : Int32)) B.1.1 B.1.2.1 dL_law_1257 (by decide) ?_
              refine lv_iadd B.1.1 B.1.2.1 dL_law_1258 ?_
              obtain ⟨hin9, hw⟩ := hw
              refine va_sld B.1.1 B.1.2.1 hX hbl hbA h.2 hin9 dL_law_1259 ?_
              obtain ⟨hok, hw⟩ := hw
              refine q_callIV B h (met_X5_used l c2 (0 : Int32) (xs (m5 + (2 : Int32)).toNatClampNeg)) (CB B 2 kC_X5_used kI_RX5 kM_RL_139 hd_X5_used ⟨Nat.le_of_ble_eq_true rfl, Nat.le_of_ble_eq_true rfl⟩) kO_X5_used kV_X5_used (ci := 5) rfl (by decide) hok.1 hok.2 (rest := []) rfl rfl hl.1 (Nat.le_of_ble_eq_true rfl) dL_law_1260 ⟨(by show _ ≤ 601024; omega), (by show _ ≤ 7293034; omega)⟩ hw (fun r52 S58 H locs hw9 h9 => ?_)
              replace hw := hw9
              clear hw9
              replace h := h9
              clear h9
              refine lv_istore (i := 7) (lv' := [(7, .int r52), (6, .int r51), (0, .ref b), (1, .ref c1), (2, .ref c2), (3, .ref c3), (4, .ref c4), (5, .int m5)]) B.1.1 B.1.2.1 dL_law_1263 hl (by decide) rfl (fun ls hl9 => ?_)
              replace hl := hl9
              clear hl9
              refine lv_aload_n B.1.1 B.1.2.1 dL_law_1265 rfl (lv_at hl 4 rfl) ?_
              obtain ⟨hok, hw⟩ := hw
              refine q_callIV B h (met_X5_thrown l c2) (CB B 0 kC_X5_thrown kI_RX5 kM_RL_86 hd_X5_thrown ⟨Nat.le_of_ble_eq_true rfl, Nat.le_of_ble_eq_true rfl⟩) kO_X5_thrown kV_X5_thrown (ci := 5) rfl (by decide) hok.1 hok.2 (rest := []) rfl rfl hl.1 (Nat.le_of_ble_eq_true rfl) dL_law_1266 ⟨(by show _ ≤ 601024; omega), (by show _ ≤ 7293034; omega)⟩ hw (fun r53 S59 H locs hw9 h9 => ?_)
              replace hw := hw9
              clear hw9
              replace h := h9
              clear h9
              refine lv_iload B.1.1 B.1.2.1 dL_law_1269 (lv_at hl 1 rfl) ?_
              refine lv_icmp_eq (tgt := 1276) B.1.1 B.1.2.1 dL_law_1271 (by decide) (fun hc => ?_) (fun hc => ?_)
              · replace hw := hw.1 hc
                refine lv_iload B.1.1 B.1.2.1 dL_law_1276 (lv_at hl 1 rfl) ?_
                refine lv_if_ne (tgt := 1293) B.1.1 B.1.2.1 dL_law_1278 (by decide) (fun hc => ?_) (fun hc => ?_)
                · replace hw := hw.1 hc
                  refine lv_goto (tgt := 1442) B.1.1 B.1.2.1 dL_law_1293 (by decide) ?_
                  refine lv_iinc (i := 5) (v := (m5 + (6 : Int32))) (lv' := [(5, .int (m5 + (6 : Int32))), (7, .int r52), (6, .int r51), (0, .ref b), (1, .ref c1), (2, .ref c2), (3, .ref c3), (4, .ref c4)]) B.1.1 B.1.2.1 dL_law_1442 hl (k := 7) rfl rfl (by decide) rfl (fun ls hl9 => ?_)
                  replace hl := hl9
                  clear hl9
                  refine lv_goto (tgt := 28) B.1.1 B.1.2.1 dL_law_1445 (by decide) ?_
                  exact ih (m5 + (6 : Int32)) _ _ _ ls _ _ (by omega) (by omega) h (lv_sub hl [3, 4, 5, 6, 7, 0] rfl) hw hk
                · replace hw := hw.2 hc
                  refine lv_aload_n B.1.1 B.1.2.1 dL_law_1281 rfl (lv_at hl 5 rfl) ?_
                  refine lv_iconst (v := (0 : Int32)) B.1.1 B.1.2.1 dL_law_1282 (by decide) ?_
                  obtain ⟨hok, hin9, hw⟩ := hw
                  refine q_lald B h dL_law_1283 hok.1 hok.2 hin9 ?_
                  refine lv_iload B.1.1 B.1.2.1 dL_law_1284 (lv_at hl 0 rfl) ?_
                  refine lv_i2l B.1.1 B.1.2.1 dL_law_1286 rfl ?_
                  refine W.lcmp B.1.1 B.1.2.1 dL_law_1287 ?_
                  refine lv_if_eq (tgt := 1293) B.1.1 B.1.2.1 dL_law_1288 (by decide) (fun hc => ?_) (fun hc => ?_)
                  · replace hw := hw.1 hc
                    refine lv_goto (tgt := 1442) B.1.1 B.1.2.1 dL_law_1293 (by decide) ?_
                    refine lv_iinc (i := 5) (v := (m5 + (6 : Int32))) (lv' := [(5, .int (m5 + (6 : Int32))), (7, .int r52), (6, .int r51), (0, .ref b), (1, .ref c1), (2, .ref c2), (3, .ref c3), (4, .ref c4)]) B.1.1 B.1.2.1 dL_law_1442 hl (k := 7) rfl rfl (by decide) rfl (fun ls hl9 => ?_)
                    replace hl := hl9
                    clear hl9
                    refine lv_goto (tgt := 28) B.1.1 B.1.2.1 dL_law_1445 (by decide) ?_
                    exact ih (m5 + (6 : Int32)) _ _ _ ls _ _ (by omega) (by omega) h (lv_sub hl [3, 4, 5, 6, 7, 0] rfl) hw hk
                  · replace hw := hw.2 hc
                    refine lv_iconst (v := (0 : Int32)) B.1.1 B.1.2.1 dL_law_1291 (by decide) ?_
                    exact False.elim hw
              · replace hw := hw.2 hc
                refine lv_iconst (v := (0 : Int32)) B.1.1 B.1.2.1 dL_law_1274 (by decide) ?_
                exact False.elim hw
            · replace hw := hw.2 hc
              refine lv_iconst (v := (1 : Int32)) B.1.1 B.1.2.1 dL_law_1249 (by decide) ?_
              refine lv_goto (tgt := 1254) B.1.1 B.1.2.1 dL_law_1250 (by decide) ?_
              refine lv_aload_n B.1.1 B.1.2.1 dL_law_1254 rfl (lv_at hl 1 rfl) ?_
              refine lv_iload B.1.1 B.1.2.1 dL_law_1255 (lv_at hl 6 rfl) ?_
              refine lv_iconst (v := (2 : Int32)) B.1.1 B.1.2.1 dL_law_1257 (by decide) ?_
              refine lv_iadd B.1.1 B.1.2.1 dL_law_1258 ?_
              obtain ⟨hin9, hw⟩ := hw
              refine va_sld B.1.1 B.1.2.1 hX hbl hbA h.2 hin9 dL_law_1259 ?_
              obtain ⟨hok, hw⟩ := hw
              refine q_callIV B h (met_X5_used l c2 (1 : Int32) (xs (m5 + (2 : Int32)).toNatClampNeg)) (CB B 2 kC_X5_used kI_RX5 kM_RL_139 hd_X5_used ⟨Nat.le_of_ble_eq_true rfl, Nat.le_of_ble_eq_true rfl⟩) kO_X5_used kV_X5_used (ci := 5) rfl (by decide) hok.1 hok.2 (rest := []) rfl rfl hl.1 (Nat.le_of_ble_eq_true rfl) dL_law_1260 ⟨(by show _ ≤ 601024; omega), (by show _ ≤ 7293034; omega)⟩ hw (fun r54 S60 H locs hw9 h9 => ?_)
              replace hw := hw9
              clear hw9
              replace h := h9
              clear h9
              refine lv_istore (i := 7) (lv' := [(7, .int r54), (6, .int r51), (0, .ref b), (1, .ref c1), (2, .ref c2), (3, .ref c3), (4, .ref c4), (5, .int m5)]) B.1.1 B.1.2.1 dL_law_1263 hl (by decide) rfl (fun ls hl9 => ?_)
              replace hl := hl9
              clear hl9
              refine lv_aload_n B.1.1 B.1.2.1 dL_law_1265 rfl (lv_at hl 4 rfl) ?_
              obtain ⟨hok, hw⟩ := hw
              refine q_callIV B h (met_X5_thrown l c2) (CB B 0 kC_X5_thrown kI_RX5 kM_RL_86 hd_X5_thrown ⟨Nat.le_of_ble_eq_true rfl, Nat.le_of_ble_eq_true rfl⟩) kO_X5_thrown kV_X5_thrown (ci := 5) rfl (by decide) hok.1 hok.2 (rest := []) rfl rfl hl.1 (Nat.le_of_ble_eq_true rfl) dL_law_1266 ⟨(by show _ ≤ 601024; omega), (by show _ ≤ 7293034; omega)⟩ hw (fun r55 S61 H locs hw9 h9 => ?_)
              replace hw := hw9
              clear hw9
              replace h := h9
              clear h9
              refine lv_iload B.1.1 B.1.2.1 dL_law_1269 (lv_at hl 1 rfl) ?_
              refine lv_icmp_eq (tgt := 1276) B.1.1 B.1.2.1 dL_law_1271 (by decide) (fun hc => ?_) (fun hc => ?_)
              · replace hw := hw.1 hc
                refine lv_iload B.1.1 B.1.2.1 dL_law_1276 (lv_at hl 1 rfl) ?_
                refine lv_if_ne (tgt := 1293) B.1.1 B.1.2.1 dL_law_1278 (by decide) (fun hc => ?_) (fun hc => ?_)
                · replace hw := hw.1 hc
                  refine lv_goto (tgt := 1442) B.1.1 B.1.2.1 dL_law_1293 (by decide) ?_
                  refine lv_iinc (i := 5) (v := (m5 + (6 : Int32))) (lv' := [(5, .int (m5 + (6 : Int32))), (7, .int r54), (6, .int r51), (0, .ref b), (1, .ref c1), (2, .ref c2), (3, .ref c3), (4, .ref c4)]) B.1.1 B.1.2.1 dL_law_1442 hl (k := 7) rfl rfl (by decide) rfl (fun ls hl9 => ?_)
                  replace hl := hl9
                  clear hl9
                  refine lv_goto (tgt := 28) B.1.1 B.1.2.1 dL_law_1445 (by decide) ?_
                  exact ih (m5 + (6 : Int32)) _ _ _ ls _ _ (by omega) (by omega) h (lv_sub hl [3, 4, 5, 6, 7, 0] rfl) hw hk
                · replace hw := hw.2 hc
                  refine lv_aload_n B.1.1 B.1.2.1 dL_law_1281 rfl (lv_at hl 5 rfl) ?_
                  refine lv_iconst (v := (0 : Int32)) B.1.1 B.1.2.1 dL_law_1282 (by decide) ?_
                  obtain ⟨hok, hin9, hw⟩ := hw
                  refine q_lald B h dL_law_1283 hok.1 hok.2 hin9 ?_
                  refine lv_iload B.1.1 B.1.2.1 dL_law_1284 (lv_at hl 0 rfl) ?_
                  refine lv_i2l B.1.1 B.1.2.1 dL_law_1286 rfl ?_
                  refine W.lcmp B.1.1 B.1.2.1 dL_law_1287 ?_
                  refine lv_if_eq (tgt := 1293) B.1.1 B.1.2.1 dL_law_1288 (by decide) (fun hc => ?_) (fun hc => ?_)
                  · replace hw := hw.1 hc
                    refine lv_goto (tgt := 1442) B.1.1 B.1.2.1 dL_law_1293 (by decide) ?_
                    refine lv_iinc (i := 5) (v := (m5 + (6 : Int32))) (lv' := [(5, .int (m5 + (6 : Int32))), (7, .int r54), (6, .int r51), (0, .ref b), (1, .ref c1), (2, .ref c2), (3, .ref c3), (4, .ref c4)]) B.1.1 B.1.2.1 dL_law_1442 hl (k := 7) rfl rfl (by decide) rfl (fun ls hl9 => ?_)
                    replace hl := hl9
                    clear hl9
                    refine lv_goto (tgt := 28) B.1.1 B.1.2.1 dL_law_1445 (by decide) ?_
                    exact ih (m5 + (6 : Int32)) _ _ _ ls _ _ (by omega) (by omega) h (lv_sub hl [3, 4, 5, 6, 7, 0] rfl) hw hk
                  · replace hw := hw.2 hc
                    refine lv_iconst (v := (0 : Int32)) B.1.1 B.1.2.1 dL_law_1291 (by decide) ?_
                    exact False.elim hw
              · replace hw := hw.2 hc
                refine lv_iconst (v := (0 : Int32)) B.1.1 B.1.2.1 dL_law_1274 (by decide) ?_
                exact False.elim hw
        by_cases hk16 : xx = (16 : Int32)
        · replace hw := hw.2.2.2.2.2.2.2.2.2.2.2.2.2.2.2.2.1 hk16
          rw [hk16]
          refine lv_tableIn (off := 1251) (tgt := 1296) B.1.1 B.1.2.1 dL_law_45 (by decide) (by decide) (by decide) (by decide) ?_
          refine lv_aload_n B.1.1 B.1.2.1 dL_law_1296 rfl (lv_at hl 1 rfl) ?_
          refine lv_aload_n B.1.1 B.1.2.1 dL_law_1297 rfl (lv_at hl 0 rfl) ?_
          refine lv_iload B.1.1 B.1.2.1 dL_law_1298 (lv_at hl 5 rfl) ?_
          refine lv_iconst (v := (1 : Int32)) B.1.1 B.1.2.1 dL_law_1300 (by decide) ?_
          refine lv_iadd B.1.1 B.1.2.1 dL_law_1301 ?_
          obtain ⟨hin9, hw⟩ := hw
          refine va_sld B.1.1 B.1.2.1 hX hbl hbA h.2 hin9 dL_law_1302 ?_
          refine lv_aload_n B.1.1 B.1.2.1 dL_law_1303 rfl (lv_at hl 0 rfl) ?_
          refine lv_iload B.1.1 B.1.2.1 dL_law_1304 (lv_at hl 5 rfl) ?_
          refine lv_iconst (v := (2 : Int32)) B.1.1 B.1.2.1 dL_law_1306 (by decide) ?_
          refine lv_iadd B.1.1 B.1.2.1 dL_law_1307 ?_
          obtain ⟨hin9, hw⟩ := hw
          refine va_sld B.1.1 B.1.2.1 hX hbl hbA h.2 hin9 dL_law_1308 ?_
          refine lv_aload_n B.1.1 B.1.2.1 dL_law_1309 rfl (lv_at hl 3 rfl) ?_
          refine q_callH B h (met_L_seam l hst (some c1) (xs (m5 + (1 : Int32)).toNatClampNeg) (xs (m5 + (2 : Int32)).toNatClampNeg) (some c3)) (CSW B 4 kC_L_seam kI_RL kM_RL_140 kS_L_seam hd_L_seam ⟨Nat.le_of_ble_eq_true rfl, Nat.le_of_ble_eq_true rfl⟩) (rest := []) rfl rfl hl.1 (Nat.le_of_ble_eq_true rfl) dL_law_1310 ⟨(by show _ ≤ 601024; omega), (by show _ ≤ 7293034; omega)⟩ hw (fun r56 S62 H locs hw9 h9 => ?_)
          replace hw := hw9
          clear hw9
          replace h := h9
          clear h9
          refine lv_istore (i := 6) (lv' := [(6, .int r56), (0, .ref b), (1, .ref c1), (2, .ref c2), (3, .ref c3), (4, .ref c4), (5, .int m5)]) B.1.1 B.1.2.1 dL_law_1313 hl (by decide) rfl (fun ls hl9 => ?_)
          replace hl := hl9
          clear hl9
          refine lv_aload_n B.1.1 B.1.2.1 dL_law_1315 rfl (lv_at hl 3 rfl) ?_
          refine lv_aload_n B.1.1 B.1.2.1 dL_law_1316 rfl (lv_at hl 1 rfl) ?_
          refine lv_iload B.1.1 B.1.2.1 dL_law_1317 (lv_at hl 6 rfl) ?_
          refine lv_iconst (v := (1 : Int32)) B.1.1 B.1.2.1 dL_law_1319 (by decide) ?_
          refine lv_iadd B.1.1 B.1.2.1 dL_law_1320 ?_
          obtain ⟨hin9, hw⟩ := hw
          refine va_sld B.1.1 B.1.2.1 hX hbl hbA h.2 hin9 dL_law_1321 ?_
          refine lv_aload_n B.1.1 B.1.2.1 dL_law_1322 rfl (lv_at hl 1 rfl) ?_
          refine lv_iload B.1.1 B.1.2.1 dL_law_1323 (lv_at hl 6 rfl) ?_
          refine lv_iconst (v := (2 : Int32)) B.1.1 B.1.2.1 dL_law_1325 (by decide) ?_
          refine lv_iadd B.1.1 B.1.2.1 dL_law_1326 ?_
          obtain ⟨hin9, hw⟩ := hw
          refine va_sld B.1.1 B.1.2.1 hX hbl hbA h.2 hin9 dL_law_1327 ?_
          obtain ⟨hok, hw⟩ := hw
          refine q_callIV B h (met_X5_seam l c2 (xs (m5 + (1 : Int32)).toNatClampNeg) (xs (m5 + (2 : Int32)).toNatClampNeg)) (CB B 2 kC_X5_seam kI_RX5 kM_RL_142 hd_X5_seam ⟨Nat.le_of_ble_eq_true rfl, Nat.le_of_ble_eq_true rfl⟩) kO_X5_seam kV_X5_seam (ci := 5) rfl (by decide) hok.1 hok.2 (rest := []) rfl rfl hl.1 (Nat.le_of_ble_eq_true rfl) dL_law_1328 ⟨(by show _ ≤ 601024; omega), (by show _ ≤ 7293034; omega)⟩ hw (fun r57 S63 H locs hw9 h9 => ?_)
          replace hw := hw9
          clear hw9
          replace h := h9
          clear h9
          refine lv_istore (i := 7) (lv' := [(7, .int r57), (6, .int r56), (0, .ref b), (1, .ref c1), (2, .ref c2), (3, .ref c3), (4, .ref c4), (5, .int m5)]) B.1.1 B.1.2.1 dL_law_1331 hl (by decide) rfl (fun ls hl9 => ?_)
          replace hl := hl9
          clear hl9
          refine lv_aload_n B.1.1 B.1.2.1 dL_law_1333 rfl (lv_at hl 4 rfl) ?_
          obtain ⟨hok, hw⟩ := hw
          refine q_callIV B h (met_X5_thrown l c2) (CB B 0 kC_X5_thrown kI_RX5 kM_RL_86 hd_X5_thrown ⟨Nat.le_of_ble_eq_true rfl, Nat.le_of_ble_eq_true rfl⟩) kO_X5_thrown kV_X5_thrown (ci := 5) rfl (by decide) hok.1 hok.2 (rest := []) rfl rfl hl.1 (Nat.le_of_ble_eq_true rfl) dL_law_1334 ⟨(by show _ ≤ 601024; omega), (by show _ ≤ 7293034; omega)⟩ hw (fun r58 S64 H locs hw9 h9 => ?_)
          replace hw := hw9
          clear hw9
          replace h := h9
          clear h9
          refine lv_iload B.1.1 B.1.2.1 dL_law_1337 (lv_at hl 1 rfl) ?_
          refine lv_icmp_eq (tgt := 1344) B.1.1 B.1.2.1 dL_law_1339 (by decide) (fun hc => ?_) (fun hc => ?_)
          · replace hw := hw.1 hc
            refine lv_iload B.1.1 B.1.2.1 dL_law_1344 (lv_at hl 1 rfl) ?_
            refine lv_if_ne (tgt := 1361) B.1.1 B.1.2.1 dL_law_1346 (by decide) (fun hc => ?_) (fun hc => ?_)
            · replace hw := hw.1 hc
              refine lv_goto (tgt := 1442) B.1.1 B.1.2.1 dL_law_1361 (by decide) ?_
              refine lv_iinc (i := 5) (v := (m5 + (6 : Int32))) (lv' := [(5, .int (m5 + (6 : Int32))), (7, .int r57), (6, .int r56), (0, .ref b), (1, .ref c1), (2, .ref c2), (3, .ref c3), (4, .ref c4)]) B.1.1 B.1.2.1 dL_law_1442 hl (k := 7) rfl rfl (by decide) rfl (fun ls hl9 => ?_)
              replace hl := hl9
              clear hl9
              refine lv_goto (tgt := 28) B.1.1 B.1.2.1 dL_law_1445 (by decide) ?_
              exact ih (m5 + (6 : Int32)) _ _ _ ls _ _ (by omega) (by omega) h (lv_sub hl [3, 4, 5, 6, 7, 0] rfl) hw hk
            · replace hw := hw.2 hc
              refine lv_aload_n B.1.1 B.1.2.1 dL_law_1349 rfl (lv_at hl 5 rfl) ?_
              refine lv_iconst (v := (0 : Int32)) B.1.1 B.1.2.1 dL_law_1350 (by decide) ?_
              obtain ⟨hok, hin9, hw⟩ := hw
              refine q_lald B h dL_law_1351 hok.1 hok.2 hin9 ?_
              refine lv_iload B.1.1 B.1.2.1 dL_law_1352 (lv_at hl 0 rfl) ?_
              refine lv_i2l B.1.1 B.1.2.1 dL_law_1354 rfl ?_
              refine W.lcmp B.1.1 B.1.2.1 dL_law_1355 ?_
              refine lv_if_eq (tgt := 1361) B.1.1 B.1.2.1 dL_law_1356 (by decide) (fun hc => ?_) (fun hc => ?_)
              · replace hw := hw.1 hc
                refine lv_goto (tgt := 1442) B.1.1 B.1.2.1 dL_law_1361 (by decide) ?_
                refine lv_iinc (i := 5) (v := (m5 + (6 : Int32))) (lv' := [(5, .int (m5 + (6 : Int32))), (7, .int r57), (6, .int r56), (0, .ref b), (1, .ref c1), (2, .ref c2), (3, .ref c3), (4, .ref c4)]) B.1.1 B.1.2.1 dL_law_1442 hl (k := 7) rfl rfl (by decide) rfl (fun ls hl9 => ?_)
                replace hl := hl9
                clear hl9
                refine lv_goto (tgt := 28) B.1.1 B.1.2.1 dL_law_1445 (by decide) ?_
                exact ih (m5 + (6 : Int32)) _ _ _ ls _ _ (by omega) (by omega) h (lv_sub hl [3, 4, 5, 6, 7, 0] rfl) hw hk
              · replace hw := hw.2 hc
                refine lv_iconst (v := (0 : Int32)) B.1.1 B.1.2.1 dL_law_1359 (by decide) ?_
                exact False.elim hw
          · replace hw := hw.2 hc
            refine lv_iconst (v := (0 : Int32)) B.1.1 B.1.2.1 dL_law_1342 (by decide) ?_
            exact False.elim hw
        by_cases hk17 : xx = (17 : Int32)
        · replace hw := hw.2.2.2.2.2.2.2.2.2.2.2.2.2.2.2.2.2.1 hk17
          rw [hk17]
          refine lv_tableIn (off := 1319) (tgt := 1364) B.1.1 B.1.2.1 dL_law_45 (by decide) (by decide) (by decide) (by decide) ?_
          refine lv_aload_n B.1.1 B.1.2.1 dL_law_1364 rfl (lv_at hl 1 rfl) ?_
          refine lv_aload_n B.1.1 B.1.2.1 dL_law_1365 rfl (lv_at hl 0 rfl) ?_
          refine lv_iload B.1.1 B.1.2.1 dL_law_1366 (lv_at hl 5 rfl) ?_
          refine lv_iconst (v := (1 : Int32)) B.1.1 B.1.2.1 dL_law_1368 (by decide) ?_
          refine lv_iadd B.1.1 B.1.2.1 dL_law_1369 ?_
          obtain ⟨hin9, hw⟩ := hw
          refine va_sld B.1.1 B.1.2.1 hX hbl hbA h.2 hin9 dL_law_1370 ?_
          refine lv_aload B.1.1 B.1.2.1 dL_law_1371 (lv_at hl 4 rfl) ?_
          refine q_callH B h (met_L_meanError l hst (some c1) (xs (m5 + (1 : Int32)).toNatClampNeg) (some c4)) (CSW B 3 kC_L_meanError kI_RL kM_RL_143 kS_L_meanError hd_L_meanError ⟨Nat.le_of_ble_eq_true rfl, Nat.le_of_ble_eq_true rfl⟩) (rest := []) rfl rfl hl.1 (Nat.le_of_ble_eq_true rfl) dL_law_1373 ⟨(by show _ ≤ 601024; omega), (by show _ ≤ 7293034; omega)⟩ hw (fun r59 S65 H locs hw9 h9 => ?_)
          replace hw := hw9
          clear hw9
          replace h := h9
          clear h9
          refine lv_istore (i := 6) (lv' := [(6, .int r59), (0, .ref b), (1, .ref c1), (2, .ref c2), (3, .ref c3), (4, .ref c4), (5, .int m5)]) B.1.1 B.1.2.1 dL_law_1376 hl (by decide) rfl (fun ls hl9 => ?_)
          replace hl := hl9
          clear hl9
          refine lv_aload_n B.1.1 B.1.2.1 dL_law_1378 rfl (lv_at hl 3 rfl) ?_
          refine lv_aload_n B.1.1 B.1.2.1 dL_law_1379 rfl (lv_at hl 1 rfl) ?_
          refine lv_iload B.1.1 B.1.2.1 dL_law_1380 (lv_at hl 6 rfl) ?_
          refine lv_iconst (v := (1 : Int32)) B.1.1 B.1.2.1 dL_law_1382 (by decide) ?_
          refine lv_iadd B.1.1 B.1.2.1 dL_law_1383 ?_
          obtain ⟨hin9, hw⟩ := hw
          refine va_sld B.1.1 B.1.2.1 hX hbl hbA h.2 hin9 dL_law_1384 ?_
          obtain ⟨hok, hw⟩ := hw
          refine q_callFV B h (met_X5_meanError l c2 (xs (m5 + (1 : Int32)).toNatClampNeg)) (CB B 1 kC_X5_meanError kI_RX5 kM_RL_146 hd_X5_meanError ⟨Nat.le_of_ble_eq_true rfl, Nat.le_of_ble_eq_true rfl⟩) kO_X5_meanError kV_X5_meanError (ci := 5) rfl (by decide) hok.1 hok.2 (rest := []) rfl rfl hl.1 (Nat.le_of_ble_eq_true rfl) dL_law_1385 ⟨(by show _ ≤ 601024; omega), (by show _ ≤ 7293034; omega)⟩ hw (fun r60 S66 H locs hw9 h9 => ?_)
          replace hw := hw9
          clear hw9
          replace h := h9
          clear h9
          refine lv_fstore (i := 7) (lv' := [(7, .float r60), (6, .int r59), (0, .ref b), (1, .ref c1), (2, .ref c2), (3, .ref c3), (4, .ref c4), (5, .int m5)]) B.1.1 B.1.2.1 dL_law_1388 hl (by decide) rfl (fun ls hl9 => ?_)
          replace hl := hl9
          clear hl9
          refine lv_aload_n B.1.1 B.1.2.1 dL_law_1390 rfl (lv_at hl 4 rfl) ?_
          obtain ⟨hok, hw⟩ := hw
          refine q_callIV B h (met_X5_thrown l c2) (CB B 0 kC_X5_thrown kI_RX5 kM_RL_86 hd_X5_thrown ⟨Nat.le_of_ble_eq_true rfl, Nat.le_of_ble_eq_true rfl⟩) kO_X5_thrown kV_X5_thrown (ci := 5) rfl (by decide) hok.1 hok.2 (rest := []) rfl rfl hl.1 (Nat.le_of_ble_eq_true rfl) dL_law_1391 ⟨(by show _ ≤ 601024; omega), (by show _ ≤ 7293034; omega)⟩ hw (fun r61 S67 H locs hw9 h9 => ?_)
          replace hw := hw9
          clear hw9
          replace h := h9
          clear h9
          refine lv_iload B.1.1 B.1.2.1 dL_law_1394 (lv_at hl 1 rfl) ?_
          refine lv_icmp_eq (tgt := 1401) B.1.1 B.1.2.1 dL_law_1396 (by decide) (fun hc => ?_) (fun hc => ?_)
          · replace hw := hw.1 hc
            refine lv_iload B.1.1 B.1.2.1 dL_law_1401 (lv_at hl 1 rfl) ?_
            refine lv_if_ne (tgt := 1439) B.1.1 B.1.2.1 dL_law_1403 (by decide) (fun hc => ?_) (fun hc => ?_)
            · replace hw := hw.1 hc
              refine lv_goto (tgt := 1442) B.1.1 B.1.2.1 dL_law_1439 (by decide) ?_
              refine lv_iinc (i := 5) (v := (m5 + (6 : Int32))) (lv' := [(5, .int (m5 + (6 : Int32))), (7, .float r60), (6, .int r59), (0, .ref b), (1, .ref c1), (2, .ref c2), (3, .ref c3), (4, .ref c4)]) B.1.1 B.1.2.1 dL_law_1442 hl (k := 7) rfl rfl (by decide) rfl (fun ls hl9 => ?_)
              replace hl := hl9
              clear hl9
              refine lv_goto (tgt := 28) B.1.1 B.1.2.1 dL_law_1445 (by decide) ?_
              exact ih (m5 + (6 : Int32)) _ _ _ ls _ _ (by omega) (by omega) h (lv_sub hl [3, 4, 5, 6, 7, 0] rfl) hw hk
            · replace hw := hw.2 hc
              refine lv_aload B.1.1 B.1.2.1 dL_law_1406 (lv_at hl 6 rfl) ?_
              refine lv_iconst (v := (0 : Int32)) B.1.1 B.1.2.1 dL_law_1408 (by decide) ?_
              obtain ⟨hok, hin9, hw⟩ := hw
              refine q_dald B h dL_law_1409 hok.1 hok.2 hin9 ?_
              refine lv_fload B.1.1 B.1.2.1 dL_law_1410 (lv_at hl 0 rfl) ?_
              obtain ⟨hne, hw⟩ := hw
              refine lv_f2d B.1.1 B.1.2.1 dL_law_1412 hne ?_
              refine lv_dcmp B.1.1 B.1.2.1 dL_law_1413 ?_
              refine lv_if_eq (tgt := 1439) B.1.1 B.1.2.1 dL_law_1414 (by decide) (fun hc => ?_) (fun hc => ?_)
              · replace hw := hw.1 hc
                refine lv_goto (tgt := 1442) B.1.1 B.1.2.1 dL_law_1439 (by decide) ?_
                refine lv_iinc (i := 5) (v := (m5 + (6 : Int32))) (lv' := [(5, .int (m5 + (6 : Int32))), (7, .float r60), (6, .int r59), (0, .ref b), (1, .ref c1), (2, .ref c2), (3, .ref c3), (4, .ref c4)]) B.1.1 B.1.2.1 dL_law_1442 hl (k := 7) rfl rfl (by decide) rfl (fun ls hl9 => ?_)
                replace hl := hl9
                clear hl9
                refine lv_goto (tgt := 28) B.1.1 B.1.2.1 dL_law_1445 (by decide) ?_
                exact ih (m5 + (6 : Int32)) _ _ _ ls _ _ (by omega) (by omega) h (lv_sub hl [3, 4, 5, 6, 7, 0] rfl) hw hk
              · replace hw := hw.2 hc
                refine lv_aload B.1.1 B.1.2.1 dL_law_1417 (lv_at hl 6 rfl) ?_
                refine lv_iconst (v := (0 : Int32)) B.1.1 B.1.2.1 dL_law_1419 (by decide) ?_
                obtain ⟨hok, hin9, hw⟩ := hw
                refine q_dald B h dL_law_1420 hok.1 hok.2 hin9 ?_
                refine lv_aload B.1.1 B.1.2.1 dL_law_1421 (lv_at hl 6 rfl) ?_
                refine lv_iconst (v := (0 : Int32)) B.1.1 B.1.2.1 dL_law_1423 (by decide) ?_
                obtain ⟨hok, hin9, hw⟩ := hw
                refine q_dald B h dL_law_1424 hok.1 hok.2 hin9 ?_
                refine lv_dcmp B.1.1 B.1.2.1 dL_law_1425 ?_
                refine lv_if_eq (tgt := 1437) B.1.1 B.1.2.1 dL_law_1426 (by decide) (fun hc => ?_) (fun hc => ?_)
                · replace hw := hw.1 hc
                  refine lv_iconst (v := (0 : Int32)) B.1.1 B.1.2.1 dL_law_1437 (by decide) ?_
                  exact False.elim hw
                · replace hw := hw.2 hc
                  refine lv_fload B.1.1 B.1.2.1 dL_law_1429 (lv_at hl 0 rfl) ?_
                  refine lv_fload B.1.1 B.1.2.1 dL_law_1431 (lv_at hl 0 rfl) ?_
                  refine lv_fcmp B.1.1 B.1.2.1 dL_law_1433 ?_
                  refine lv_if_ne (tgt := 1439) B.1.1 B.1.2.1 dL_law_1434 (by decide) (fun hc => ?_) (fun hc => ?_)
                  · replace hw := hw.1 hc
                    refine lv_goto (tgt := 1442) B.1.1 B.1.2.1 dL_law_1439 (by decide) ?_
                    refine lv_iinc (i := 5) (v := (m5 + (6 : Int32))) (lv' := [(5, .int (m5 + (6 : Int32))), (7, .float r60), (6, .int r59), (0, .ref b), (1, .ref c1), (2, .ref c2), (3, .ref c3), (4, .ref c4)]) B.1.1 B.1.2.1 dL_law_1442 hl (k := 7) rfl rfl (by decide) rfl (fun ls hl9 => ?_)
                    replace hl := hl9
                    clear hl9
                    refine lv_goto (tgt := 28) B.1.1 B.1.2.1 dL_law_1445 (by decide) ?_
                    exact ih (m5 + (6 : Int32)) _ _ _ ls _ _ (by omega) (by omega) h (lv_sub hl [3, 4, 5, 6, 7, 0] rfl) hw hk
                  · replace hw := hw.2 hc
                    refine lv_iconst (v := (0 : Int32)) B.1.1 B.1.2.1 dL_law_1437 (by decide) ?_
                    exact False.elim hw
          · replace hw := hw.2 hc
            refine lv_iconst (v := (0 : Int32)) B.1.1 B.1.2.1 dL_law_1399 (by decide) ?_
            exact False.elim hw
        replace hw := hw.2.2.2.2.2.2.2.2.2.2.2.2.2.2.2.2.2.2
        refine lv_tableOut (tgt := 1442) B.1.1 B.1.2.1 dL_law_45 (sw18 hk0 hk1 hk2 hk3 hk4 hk5 hk6 hk7 hk8 hk9 hk10 hk11 hk12 hk13 hk14 hk15 hk16 hk17) (by decide) ?_
        refine lv_iinc (i := 5) (v := (m5 + (6 : Int32))) (lv' := [(5, .int (m5 + (6 : Int32))), (0, .ref b), (1, .ref c1), (2, .ref c2), (3, .ref c3), (4, .ref c4)]) B.1.1 B.1.2.1 dL_law_1442 hl (k := 5) rfl rfl (by decide) rfl (fun ls hl9 => ?_)
        replace hl := hl9
        clear hl9
        refine lv_goto (tgt := 28) B.1.1 B.1.2.1 dL_law_1445 (by decide) ?_
        exact ih (m5 + (6 : Int32)) _ _ _ ls _ _ (by omega) (by omega) h (lv_sub hl [1, 2, 3, 4, 5, 0] rfl) hw hk
  intro h hl hw
  refine q_new B h (ci := 4) rfl inT_4 tyX4 tyX4_ok kL_RL_8 kN_4 kI_RX4 (by decide) hfs_4 (Nat.le_of_ble_eq_true rfl) (Nat.le_of_ble_eq_true rfl) dL_law_0 (fun q1 H hqq1 h9 => ?_)
  obtain ⟨S1, hS1, hh⟩ : ∃ z, z = nw S 4 0 q1 ∧ Hx D cs lo s z H _ := ⟨_, rfl, h9⟩
  clear h9
  replace h := hh
  clear hh
  replace hw := hw q1 hqq1 S1 hS1
  refine lv_dup B.1.1 B.1.2.1 dL_law_3 rfl ?_
  refine q_callVI B h (met_X4_init l q1) (CB B 0 kC_X4_init kI_RX4 kM_RL_76 hd_X4_init ⟨Nat.le_of_ble_eq_true rfl, Nat.le_of_ble_eq_true rfl⟩) rfl kO_X4_init (rest := [.ref q1]) rfl rfl hl.1 (Nat.le_of_ble_eq_true rfl) dL_law_4 ⟨Nat.le_of_ble_eq_true rfl, Nat.le_of_ble_eq_true rfl⟩ hw (fun S2 H locs hw9 h9 => ?_)
  replace hw := hw9
  clear hw9
  replace h := h9
  clear h9
  refine lv_astore_n (i := 1) (lv' := [(1, .ref q1), (0, .ref b)]) B.1.1 B.1.2.1 dL_law_7 rfl hl (by decide) rfl (fun ls hl9 => ?_)
  replace hl := hl9
  clear hl9
  refine q_new B h (ci := 5) rfl inT_5 tyX5 tyX5_ok kL_RL_77 kN_5 kI_RX5 (by decide) hfs_5 (Nat.le_of_ble_eq_true rfl) (Nat.le_of_ble_eq_true rfl) dL_law_8 (fun q2 H hqq2 h9 => ?_)
  obtain ⟨S3, hS3, hh⟩ : ∃ z, z = nw S2 5 0 q2 ∧ Hx D cs lo s z H _ := ⟨_, rfl, h9⟩
  clear h9
  replace h := hh
  clear hh
  replace hw := hw q2 hqq2 S3 hS3
  refine lv_dup B.1.1 B.1.2.1 dL_law_11 rfl ?_
  refine q_callVI B h (met_X5_init l q2) (CB B 0 kC_X5_init kI_RX5 kM_RL_79 hd_X5_init ⟨Nat.le_of_ble_eq_true rfl, Nat.le_of_ble_eq_true rfl⟩) rfl kO_X5_init (rest := [.ref q2]) rfl rfl hl.1 (Nat.le_of_ble_eq_true rfl) dL_law_12 ⟨Nat.le_of_ble_eq_true rfl, Nat.le_of_ble_eq_true rfl⟩ hw (fun S4 H locs hw9 h9 => ?_)
  replace hw := hw9
  clear hw9
  replace h := h9
  clear h9
  refine lv_astore_n (i := 2) (lv' := [(2, .ref q2), (1, .ref q1), (0, .ref b)]) B.1.1 B.1.2.1 dL_law_15 rfl hl (by decide) rfl (fun ls hl9 => ?_)
  replace hl := hl9
  clear hl9
  refine lv_iconst (v := (1 : Int32)) B.1.1 B.1.2.1 dL_law_16 (by decide) ?_
  refine q_newj B h (N' := 1) kA_long (by decide) (by decide) (Nat.le_of_ble_eq_true rfl) (Nat.le_of_ble_eq_true rfl) (Nat.le_of_ble_eq_true rfl) dL_law_17 (fun q3 H hqq3 h9 => ?_)
  obtain ⟨S5, hS5, hh⟩ : ∃ z, z = nw S4 11 1 q3 ∧ Hx D cs lo s z H _ := ⟨_, rfl, h9⟩
  clear h9
  replace h := hh
  clear hh
  replace hw := hw q3 hqq3 S5 hS5
  refine lv_astore_n (i := 3) (lv' := [(3, .ref q3), (2, .ref q2), (1, .ref q1), (0, .ref b)]) B.1.1 B.1.2.1 dL_law_19 rfl hl (by decide) rfl (fun ls hl9 => ?_)
  replace hl := hl9
  clear hl9
  refine lv_iconst (v := (1 : Int32)) B.1.1 B.1.2.1 dL_law_20 (by decide) ?_
  refine q_newd B h (N' := 1) kA_double (by decide) (by decide) (Nat.le_of_ble_eq_true rfl) (Nat.le_of_ble_eq_true rfl) (Nat.le_of_ble_eq_true rfl) dL_law_21 (fun q4 H hqq4 h9 => ?_)
  obtain ⟨S6, hS6, hh⟩ : ∃ z, z = nw S5 12 1 q4 ∧ Hx D cs lo s z H _ := ⟨_, rfl, h9⟩
  clear h9
  replace h := hh
  clear hh
  replace hw := hw q4 hqq4 S6 hS6
  refine lv_astore (i := 4) (lv' := [(4, .ref q4), (3, .ref q3), (2, .ref q2), (1, .ref q1), (0, .ref b)]) B.1.1 B.1.2.1 dL_law_23 hl (by decide) rfl (fun ls hl9 => ?_)
  replace hl := hl9
  clear hl9
  refine lv_iconst (v := (0 : Int32)) B.1.1 B.1.2.1 dL_law_25 (by decide) ?_
  refine lv_istore (i := 5) (lv' := [(5, .int (0 : Int32)), (4, .ref q4), (3, .ref q3), (2, .ref q2), (1, .ref q1), (0, .ref b)]) B.1.1 B.1.2.1 dL_law_26 hl (by decide) rfl (fun ls hl9 => ?_)
  replace hl := hl9
  clear hl9
  obtain ⟨n1, hn1, hw⟩ := hw
  refine L28 q1 q2 q3 q4 _ n1 (0 : Int32) _ _ _ ls _ _ (by omega) (by omega) h (lv_sub hl [5, 4, 3, 2, 1, 0] rfl) hw (fun u1 S68 H locs ls cells slots hcc hss h9 hl9 hw9 => ?_)
  replace hw := hw9
  clear hw9
  replace h := h9
  clear h9
  replace hl := hl9
  clear hl9
  refine lv_iconst (v := (1 : Int32)) B.1.1 B.1.2.1 dL_law_1448 (by decide) ?_
  refine va_forget (fun q hq => by rw [← hlo]; exact h.2.2.2 q hq) ?_
  refine W.widen (k := 601024) (n := 7293034) (by omega) (by omega) ?_
  exact W.base (lw_ret (Drawn.sameBut.refl s.drawn lw_cs) B.1.1 B.1.2.1 hr hlk dL_law_1449)
