theorem dX1_placeOf_0 : decode cX1_placeOf 0 = .ok (.iload_n 0, 1) := by decide +kernel
theorem dX1_placeOf_1 : decode cX1_placeOf 1 = .ok (.ifCond .lt 23, 3) := by decide +kernel
theorem dX1_placeOf_4 : decode cX1_placeOf 4 = .ok (.iload_n 0, 1) := by decide +kernel
theorem dX1_placeOf_5 : decode cX1_placeOf 5 = .ok (.bipush 8, 2) := by decide +kernel
theorem dX1_placeOf_7 : decode cX1_placeOf 7 = .ok (.if_icmp .ge 17, 3) := by decide +kernel
theorem dX1_placeOf_10 : decode cX1_placeOf 10 = .ok (.iload_n 1, 1) := by decide +kernel
theorem dX1_placeOf_11 : decode cX1_placeOf 11 = .ok (.ifCond .lt 13, 3) := by decide +kernel
theorem dX1_placeOf_14 : decode cX1_placeOf 14 = .ok (.iload_n 1, 1) := by decide +kernel
theorem dX1_placeOf_15 : decode cX1_placeOf 15 = .ok (.bipush 32, 2) := by decide +kernel
theorem dX1_placeOf_17 : decode cX1_placeOf 17 = .ok (.if_icmp .ge 7, 3) := by decide +kernel
theorem dX1_placeOf_20 : decode cX1_placeOf 20 = .ok (.iconst 1, 1) := by decide +kernel
theorem dX1_placeOf_21 : decode cX1_placeOf 21 = .ok (.goto 4, 3) := by decide +kernel
theorem dX1_placeOf_24 : decode cX1_placeOf 24 = .ok (.iconst 0, 1) := by decide +kernel
theorem dX1_placeOf_25 : decode cX1_placeOf 25 = .ok (.istore_n 2, 1) := by decide +kernel
theorem dX1_placeOf_26 : decode cX1_placeOf 26 = .ok (.iload_n 2, 1) := by decide +kernel
theorem dX1_placeOf_27 : decode cX1_placeOf 27 = .ok (.ifCond .eq 12, 3) := by decide +kernel
theorem dX1_placeOf_30 : decode cX1_placeOf 30 = .ok (.iload_n 0, 1) := by decide +kernel
theorem dX1_placeOf_31 : decode cX1_placeOf 31 = .ok (.bipush 32, 2) := by decide +kernel
theorem dX1_placeOf_33 : decode cX1_placeOf 33 = .ok (.imul, 1) := by decide +kernel
theorem dX1_placeOf_34 : decode cX1_placeOf 34 = .ok (.iload_n 1, 1) := by decide +kernel
theorem dX1_placeOf_35 : decode cX1_placeOf 35 = .ok (.iadd, 1) := by decide +kernel
theorem dX1_placeOf_36 : decode cX1_placeOf 36 = .ok (.goto 4, 3) := by decide +kernel
theorem dX1_placeOf_39 : decode cX1_placeOf 39 = .ok (.iconst (-1), 1) := by decide +kernel
theorem dX1_placeOf_40 : decode cX1_placeOf 40 = .ok (.ireturn, 1) := by decide +kernel
theorem dX1_at_0 : decode cX1_at 0 = .ok (.iload_n 1, 1) := by decide +kernel
theorem dX1_at_1 : decode cX1_at 1 = .ok (.iload_n 2, 1) := by decide +kernel
theorem dX1_at_2 : decode cX1_at 2 = .ok (.invokestatic 15, 3) := by decide +kernel
theorem dX1_at_5 : decode cX1_at 5 = .ok (.istore_n 3, 1) := by decide +kernel
theorem dX1_at_6 : decode cX1_at 6 = .ok (.iload_n 3, 1) := by decide +kernel
theorem dX1_at_7 : decode cX1_at 7 = .ok (.ifCond .lt 21, 3) := by decide +kernel
theorem dX1_at_10 : decode cX1_at 10 = .ok (.iload_n 3, 1) := by decide +kernel
theorem dX1_at_11 : decode cX1_at 11 = .ok (.aload_n 0, 1) := by decide +kernel
theorem dX1_at_12 : decode cX1_at 12 = .ok (.getfield 9, 3) := by decide +kernel
theorem dX1_at_15 : decode cX1_at 15 = .ok (.arraylength, 1) := by decide +kernel
theorem dX1_at_16 : decode cX1_at 16 = .ok (.if_icmp .ge 12, 3) := by decide +kernel
theorem dX1_at_19 : decode cX1_at 19 = .ok (.aload_n 0, 1) := by decide +kernel
theorem dX1_at_20 : decode cX1_at 20 = .ok (.getfield 9, 3) := by decide +kernel
theorem dX1_at_23 : decode cX1_at 23 = .ok (.iload_n 3, 1) := by decide +kernel
theorem dX1_at_24 : decode cX1_at 24 = .ok (.iaload, 1) := by decide +kernel
theorem dX1_at_25 : decode cX1_at 25 = .ok (.goto 4, 3) := by decide +kernel
theorem dX1_at_28 : decode cX1_at 28 = .ok (.iconst 0, 1) := by decide +kernel
theorem dX1_at_29 : decode cX1_at 29 = .ok (.ireturn, 1) := by decide +kernel
theorem dX1_replace_0 : decode cX1_replace 0 = .ok (.iload_n 1, 1) := by decide +kernel
theorem dX1_replace_1 : decode cX1_replace 1 = .ok (.iload_n 2, 1) := by decide +kernel
theorem dX1_replace_2 : decode cX1_replace 2 = .ok (.invokestatic 15, 3) := by decide +kernel
theorem dX1_replace_5 : decode cX1_replace 5 = .ok (.istore 4, 2) := by decide +kernel
theorem dX1_replace_7 : decode cX1_replace 7 = .ok (.iload 4, 2) := by decide +kernel
theorem dX1_replace_9 : decode cX1_replace 9 = .ok (.ifCond .lt 13, 3) := by decide +kernel
theorem dX1_replace_12 : decode cX1_replace 12 = .ok (.iload 4, 2) := by decide +kernel
theorem dX1_replace_14 : decode cX1_replace 14 = .ok (.aload_n 0, 1) := by decide +kernel
theorem dX1_replace_15 : decode cX1_replace 15 = .ok (.getfield 9, 3) := by decide +kernel
theorem dX1_replace_18 : decode cX1_replace 18 = .ok (.arraylength, 1) := by decide +kernel
theorem dX1_replace_19 : decode cX1_replace 19 = .ok (.if_icmp .lt 5, 3) := by decide +kernel
theorem dX1_replace_22 : decode cX1_replace 22 = .ok (.iconst 0, 1) := by decide +kernel
theorem dX1_replace_23 : decode cX1_replace 23 = .ok (.ireturn, 1) := by decide +kernel
theorem dX1_replace_24 : decode cX1_replace 24 = .ok (.aload_n 0, 1) := by decide +kernel
theorem dX1_replace_25 : decode cX1_replace 25 = .ok (.getfield 9, 3) := by decide +kernel
theorem dX1_replace_28 : decode cX1_replace 28 = .ok (.iload 4, 2) := by decide +kernel
theorem dX1_replace_30 : decode cX1_replace 30 = .ok (.iaload, 1) := by decide +kernel
theorem dX1_replace_31 : decode cX1_replace 31 = .ok (.istore 5, 2) := by decide +kernel
theorem dX1_replace_33 : decode cX1_replace 33 = .ok (.aload_n 0, 1) := by decide +kernel
theorem dX1_replace_34 : decode cX1_replace 34 = .ok (.getfield 9, 3) := by decide +kernel
theorem dX1_replace_37 : decode cX1_replace 37 = .ok (.iload 4, 2) := by decide +kernel
theorem dX1_replace_39 : decode cX1_replace 39 = .ok (.iload_n 3, 1) := by decide +kernel
theorem dX1_replace_40 : decode cX1_replace 40 = .ok (.iastore, 1) := by decide +kernel
theorem dX1_replace_41 : decode cX1_replace 41 = .ok (.iload 5, 2) := by decide +kernel
theorem dX1_replace_43 : decode cX1_replace 43 = .ok (.ireturn, 1) := by decide +kernel
theorem dX3_wasPrinted_0 : decode cX3_wasPrinted 0 = .ok (.aload_n 0, 1) := by decide +kernel
theorem dX3_wasPrinted_1 : decode cX3_wasPrinted 1 = .ok (.getfield 26, 3) := by decide +kernel
theorem dX3_wasPrinted_4 : decode cX3_wasPrinted 4 = .ok (.iconst (-1), 1) := by decide +kernel
theorem dX3_wasPrinted_5 : decode cX3_wasPrinted 5 = .ok (.if_icmp .eq 7, 3) := by decide +kernel
theorem dX3_wasPrinted_8 : decode cX3_wasPrinted 8 = .ok (.iconst 1, 1) := by decide +kernel
theorem dX3_wasPrinted_9 : decode cX3_wasPrinted 9 = .ok (.goto 4, 3) := by decide +kernel
theorem dX3_wasPrinted_12 : decode cX3_wasPrinted 12 = .ok (.iconst 0, 1) := by decide +kernel
theorem dX3_wasPrinted_13 : decode cX3_wasPrinted 13 = .ok (.ireturn, 1) := by decide +kernel
theorem dX3_shareOf_0 : decode cX3_shareOf 0 = .ok (.iload_n 2, 1) := by decide +kernel
theorem dX3_shareOf_1 : decode cX3_shareOf 1 = .ok (.aload_n 0, 1) := by decide +kernel
theorem dX3_shareOf_2 : decode cX3_shareOf 2 = .ok (.getfield 32, 3) := by decide +kernel
theorem dX3_shareOf_5 : decode cX3_shareOf 5 = .ok (.if_icmp .lt 11, 3) := by decide +kernel
theorem dX3_shareOf_8 : decode cX3_shareOf 8 = .ok (.iload_n 2, 1) := by decide +kernel
theorem dX3_shareOf_9 : decode cX3_shareOf 9 = .ok (.aload_n 0, 1) := by decide +kernel
theorem dX3_shareOf_10 : decode cX3_shareOf 10 = .ok (.getfield 35, 3) := by decide +kernel
theorem dX3_shareOf_13 : decode cX3_shareOf 13 = .ok (.if_icmp .lt 5, 3) := by decide +kernel
theorem dX3_shareOf_16 : decode cX3_shareOf 16 = .ok (.iconst 0, 1) := by decide +kernel
theorem dX3_shareOf_17 : decode cX3_shareOf 17 = .ok (.ireturn, 1) := by decide +kernel
theorem dX3_shareOf_18 : decode cX3_shareOf 18 = .ok (.iload_n 2, 1) := by decide +kernel
theorem dX3_shareOf_19 : decode cX3_shareOf 19 = .ok (.aload_n 0, 1) := by decide +kernel
theorem dX3_shareOf_20 : decode cX3_shareOf 20 = .ok (.getfield 41, 3) := by decide +kernel
theorem dX3_shareOf_23 : decode cX3_shareOf 23 = .ok (.if_icmp .lt 9, 3) := by decide +kernel
theorem dX3_shareOf_26 : decode cX3_shareOf 26 = .ok (.iload_n 1, 1) := by decide +kernel
theorem dX3_shareOf_27 : decode cX3_shareOf 27 = .ok (.iconst 1, 1) := by decide +kernel
theorem dX3_shareOf_28 : decode cX3_shareOf 28 = .ok (.iadd, 1) := by decide +kernel
theorem dX3_shareOf_29 : decode cX3_shareOf 29 = .ok (.iconst 2, 1) := by decide +kernel
theorem dX3_shareOf_30 : decode cX3_shareOf 30 = .ok (.idiv, 1) := by decide +kernel
theorem dX3_shareOf_31 : decode cX3_shareOf 31 = .ok (.ireturn, 1) := by decide +kernel
theorem dX3_shareOf_32 : decode cX3_shareOf 32 = .ok (.iload_n 2, 1) := by decide +kernel
theorem dX3_shareOf_33 : decode cX3_shareOf 33 = .ok (.aload_n 0, 1) := by decide +kernel
theorem dX3_shareOf_34 : decode cX3_shareOf 34 = .ok (.getfield 38, 3) := by decide +kernel
theorem dX3_shareOf_37 : decode cX3_shareOf 37 = .ok (.if_icmp .ge 9, 3) := by decide +kernel
theorem dX3_shareOf_40 : decode cX3_shareOf 40 = .ok (.iload_n 1, 1) := by decide +kernel
theorem dX3_shareOf_41 : decode cX3_shareOf 41 = .ok (.iconst 2, 1) := by decide +kernel
theorem dX3_shareOf_42 : decode cX3_shareOf 42 = .ok (.idiv, 1) := by decide +kernel
theorem dX3_shareOf_43 : decode cX3_shareOf 43 = .ok (.goto 4, 3) := by decide +kernel
theorem dX3_shareOf_46 : decode cX3_shareOf 46 = .ok (.iload_n 1, 1) := by decide +kernel
theorem dX3_shareOf_47 : decode cX3_shareOf 47 = .ok (.ireturn, 1) := by decide +kernel

def wX1_placeOf (x0 : Int32) (x1 : Int32) (S : HS) (Q : Int32 → HS → Prop) : Prop := ((x0 < 0 → Q (-1 : Int32) S) ∧ (¬ x0 < 0 → (((8 : Int32) ≤ x0 → Q (-1 : Int32) S) ∧ (¬ (8 : Int32) ≤ x0 → ((x1 < 0 → Q (-1 : Int32) S) ∧ (¬ x1 < 0 → (((32 : Int32) ≤ x1 → Q (-1 : Int32) S) ∧ (¬ (32 : Int32) ≤ x1 → Q ((x0 * (32 : Int32)) + x1) S))))))))

def wX1_at (a0 : Nat) (x1 : Int32) (x2 : Int32) (S : HS) (Q : Int32 → HS → Prop) : Prop := (wX1_placeOf x1 x2 S (fun r1 S1 => ((r1 < 0 → Q (0 : Int32) S1) ∧ (¬ r1 < 0 → (ok S1 a0 1 ∧ (∀ o1, o1 = gR S1 32 a0 → (∃ q1, o1 = some q1 ∧ (ok S1 q1 6 ∧ (((nI (gN S1 q1)) ≤ r1 → Q (0 : Int32) S1) ∧ (¬ (nI (gN S1 q1)) ≤ r1 → (ok S1 a0 1 ∧ (∀ o2, o2 = gR S1 32 a0 → (∃ q2, o2 = some q2 ∧ (ok S1 q2 6 ∧ vp_in r1 (gN S1 q2) ∧ Q (gA S1 q2 r1.toNatClampNeg) S1))))))))))))))

def wX1_replace (a0 : Nat) (x1 : Int32) (x2 : Int32) (x3 : Int32) (S : HS) (Q : Int32 → HS → Prop) : Prop := (wX1_placeOf x1 x2 S (fun r1 S1 => ((r1 < 0 → Q (0 : Int32) S1) ∧ (¬ r1 < 0 → (ok S1 a0 1 ∧ (∀ o1, o1 = gR S1 32 a0 → (∃ q1, o1 = some q1 ∧ (ok S1 q1 6 ∧ ((r1 < (nI (gN S1 q1)) → (ok S1 a0 1 ∧ (∀ o2, o2 = gR S1 32 a0 → (∃ q2, o2 = some q2 ∧ (ok S1 q2 6 ∧ vp_in r1 (gN S1 q2) ∧ (ok S1 a0 1 ∧ (∀ o3, o3 = gR S1 32 a0 → (∃ q3, o3 = some q3 ∧ (ok S1 q3 6 ∧ vp_in r1 (gN S1 q3) ∧ (∀ S2, S2 = sA S1 q3 r1.toNatClampNeg x3 → Q (gA S1 q2 r1.toNatClampNeg) S2)))))))))) ∧ (¬ r1 < (nI (gN S1 q1)) → Q (0 : Int32) S1))))))))))

def wX3_wasPrinted (a0 : Nat) (S : HS) (Q : Int32 → HS → Prop) : Prop := (ok S a0 3 ∧ (((gI S 104 a0) = (-1 : Int32) → Q (0 : Int32) S) ∧ (¬ (gI S 104 a0) = (-1 : Int32) → Q (1 : Int32) S)))

def wX3_shareOf (a0 : Nat) (x1 : Int32) (x2 : Int32) (S : HS) (Q : Int32 → HS → Prop) : Prop := (ok S a0 3 ∧ ((x2 < (gI S 97 a0) → Q (0 : Int32) S) ∧ (¬ x2 < (gI S 97 a0) → (ok S a0 3 ∧ ((x2 < (gI S 98 a0) → (ok S a0 3 ∧ ((x2 < (gI S 100 a0) → (ok S a0 3 ∧ (((gI S 99 a0) ≤ x2 → Q x1 S) ∧ (¬ (gI S 99 a0) ≤ x2 → Q (x1 / (2 : Int32)) S)))) ∧ (¬ x2 < (gI S 100 a0) → Q ((x1 + (1 : Int32)) / (2 : Int32)) S)))) ∧ (¬ x2 < (gI S 98 a0) → Q (0 : Int32) S))))))
theorem kC_X1_placeOf : Cond.code yX1_placeOf cX1_placeOf 3 (some .int) ∈ T0 := T0_mem (i := 358) (by decide +kernel) (by decide +kernel)
theorem kI_RX1 : Cond.initialized RX1 ∈ T0 := T0_mem (i := 42) (by decide +kernel) (by decide +kernel)
theorem kM_RX1_15 : Cond.methodLink RX1 15 yX1_placeOf ∈ T0 := T0_mem (i := 356) (by decide +kernel) (by decide +kernel)
theorem hd_X1_placeOf : yX1_placeOf.cls ≠ "java/lang/invoke/MethodHandle" ∧ yX1_placeOf.cls ≠ "java/lang/invoke/VarHandle" ∧ (parseMethodDescriptor yX1_placeOf.desc).map (fun d => d.parameters.length) = some 2 := by decide +kernel
theorem kS_X1_placeOf : Cond.static yX1_placeOf ∈ T0 := T0_mem (i := 357) (by decide +kernel) (by decide +kernel)
theorem kF_RX1_9 : Cond.fieldLink RX1 9 RX1 (TX1 0).2.1 (TX1 0).2.2.1 ∈ T0 := T0_mem (i := 225) (by decide +kernel) (by decide +kernel)
theorem inT_1 : ∀ w ∈ u_ws RX1 TX1 1, w ∈ T0 := inT [226] (by decide +kernel) (by decide +kernel)
theorem kF_RX3_26 : Cond.fieldLink RX3 26 RX3 (TX3 8).2.1 (TX3 8).2.2.1 ∈ T0 := T0_mem (i := 260) (by decide +kernel) (by decide +kernel)
theorem inT_3 : ∀ w ∈ u_ws RX3 TX3 9, w ∈ T0 := inT [263, 265, 267, 269, 271, 273, 275, 277, 279] (by decide +kernel) (by decide +kernel)
theorem kF_RX3_32 : Cond.fieldLink RX3 32 RX3 (TX3 1).2.1 (TX3 1).2.2.1 ∈ T0 := T0_mem (i := 243) (by decide +kernel) (by decide +kernel)
theorem kF_RX3_35 : Cond.fieldLink RX3 35 RX3 (TX3 2).2.1 (TX3 2).2.2.1 ∈ T0 := T0_mem (i := 246) (by decide +kernel) (by decide +kernel)
theorem kF_RX3_41 : Cond.fieldLink RX3 41 RX3 (TX3 4).2.1 (TX3 4).2.2.1 ∈ T0 := T0_mem (i := 250) (by decide +kernel) (by decide +kernel)
theorem kF_RX3_38 : Cond.fieldLink RX3 38 RX3 (TX3 3).2.1 (TX3 3).2.2.1 ∈ T0 := T0_mem (i := 249) (by decide +kernel) (by decide +kernel)
set_option maxHeartbeats 4000000 in
set_option maxRecDepth 100000 in
theorem met_X1_placeOf (l : Launch) (x0 : Int32) (x1 : Int32) : MI l yX1_placeOf cX1_placeOf 3 (some .int) 0 0 0 0 [.int x0, .int x1] (wX1_placeOf x0 x1) := by
  refine MI.of (by decide) (Nat.le_of_ble_eq_true rfl) ?_
  intro p e s m below meth c D cs lo S Q ls B hr hlk hin
  intro h hl hw
  replace hl : lv_has ls 3 [(0, .int x0), (1, .int x1)] := hl
  refine lv_iload_n B.1.1 B.1.2.1 dX1_placeOf_0 rfl (lv_at hl 0 rfl) ?_
  refine lv_if_lt (tgt := 24) B.1.1 B.1.2.1 dX1_placeOf_1 (by decide) (fun hc => ?_) (fun hc => ?_)
  · replace hw := hw.1 hc
    refine lv_iconst (v := (0 : Int32)) B.1.1 B.1.2.1 dX1_placeOf_24 (by decide) ?_
    refine lv_istore_n (i := 2) (lv' := [(2, .int (0 : Int32)), (0, .int x0), (1, .int x1)]) B.1.1 B.1.2.1 dX1_placeOf_25 rfl hl (by decide) rfl (fun ls hl9 => ?_)
    replace hl := hl9
    clear hl9
    refine lv_iload_n B.1.1 B.1.2.1 dX1_placeOf_26 rfl (lv_at hl 0 rfl) ?_
    refine lv_if_eq (tgt := 39) B.1.1 B.1.2.1 dX1_placeOf_27 (by decide) (fun _ => ?_) (fun hc => absurd hc (by decide))
    refine lv_iconst (v := (-1 : Int32)) B.1.1 B.1.2.1 dX1_placeOf_39 (by decide) ?_
    exact q_iret B hr hlk h hw dX1_placeOf_40 (Nat.le_of_ble_eq_true rfl) (Nat.le_of_ble_eq_true rfl)
  · replace hw := hw.2 hc
    refine lv_iload_n B.1.1 B.1.2.1 dX1_placeOf_4 rfl (lv_at hl 0 rfl) ?_
    refine lv_bipush (v := (8 : Int32)) B.1.1 B.1.2.1 dX1_placeOf_5 (by decide) ?_
    refine lv_icmp_ge (tgt := 24) B.1.1 B.1.2.1 dX1_placeOf_7 (by decide) (fun hc => ?_) (fun hc => ?_)
    · replace hw := hw.1 hc
      refine lv_iconst (v := (0 : Int32)) B.1.1 B.1.2.1 dX1_placeOf_24 (by decide) ?_
      refine lv_istore_n (i := 2) (lv' := [(2, .int (0 : Int32)), (0, .int x0), (1, .int x1)]) B.1.1 B.1.2.1 dX1_placeOf_25 rfl hl (by decide) rfl (fun ls hl9 => ?_)
      replace hl := hl9
      clear hl9
      refine lv_iload_n B.1.1 B.1.2.1 dX1_placeOf_26 rfl (lv_at hl 0 rfl) ?_
      refine lv_if_eq (tgt := 39) B.1.1 B.1.2.1 dX1_placeOf_27 (by decide) (fun _ => ?_) (fun hc => absurd hc (by decide))
      refine lv_iconst (v := (-1 : Int32)) B.1.1 B.1.2.1 dX1_placeOf_39 (by decide) ?_
      exact q_iret B hr hlk h hw dX1_placeOf_40 (Nat.le_of_ble_eq_true rfl) (Nat.le_of_ble_eq_true rfl)
    · replace hw := hw.2 hc
      refine lv_iload_n B.1.1 B.1.2.1 dX1_placeOf_10 rfl (lv_at hl 1 rfl) ?_
      refine lv_if_lt (tgt := 24) B.1.1 B.1.2.1 dX1_placeOf_11 (by decide) (fun hc => ?_) (fun hc => ?_)
      · replace hw := hw.1 hc
        refine lv_iconst (v := (0 : Int32)) B.1.1 B.1.2.1 dX1_placeOf_24 (by decide) ?_
        refine lv_istore_n (i := 2) (lv' := [(2, .int (0 : Int32)), (0, .int x0), (1, .int x1)]) B.1.1 B.1.2.1 dX1_placeOf_25 rfl hl (by decide) rfl (fun ls hl9 => ?_)
        replace hl := hl9
        clear hl9
        refine lv_iload_n B.1.1 B.1.2.1 dX1_placeOf_26 rfl (lv_at hl 0 rfl) ?_
        refine lv_if_eq (tgt := 39) B.1.1 B.1.2.1 dX1_placeOf_27 (by decide) (fun _ => ?_) (fun hc => absurd hc (by decide))
        refine lv_iconst (v := (-1 : Int32)) B.1.1 B.1.2.1 dX1_placeOf_39 (by decide) ?_
        exact q_iret B hr hlk h hw dX1_placeOf_40 (Nat.le_of_ble_eq_true rfl) (Nat.le_of_ble_eq_true rfl)
      · replace hw := hw.2 hc
        refine lv_iload_n B.1.1 B.1.2.1 dX1_placeOf_14 rfl (lv_at hl 1 rfl) ?_
        refine lv_bipush (v := (32 : Int32)) B.1.1 B.1.2.1 dX1_placeOf_15 (by decide) ?_
        refine lv_icmp_ge (tgt := 24) B.1.1 B.1.2.1 dX1_placeOf_17 (by decide) (fun hc => ?_) (fun hc => ?_)
        · replace hw := hw.1 hc
          refine lv_iconst (v := (0 : Int32)) B.1.1 B.1.2.1 dX1_placeOf_24 (by decide) ?_
          refine lv_istore_n (i := 2) (lv' := [(2, .int (0 : Int32)), (0, .int x0), (1, .int x1)]) B.1.1 B.1.2.1 dX1_placeOf_25 rfl hl (by decide) rfl (fun ls hl9 => ?_)
          replace hl := hl9
          clear hl9
          refine lv_iload_n B.1.1 B.1.2.1 dX1_placeOf_26 rfl (lv_at hl 0 rfl) ?_
          refine lv_if_eq (tgt := 39) B.1.1 B.1.2.1 dX1_placeOf_27 (by decide) (fun _ => ?_) (fun hc => absurd hc (by decide))
          refine lv_iconst (v := (-1 : Int32)) B.1.1 B.1.2.1 dX1_placeOf_39 (by decide) ?_
          exact q_iret B hr hlk h hw dX1_placeOf_40 (Nat.le_of_ble_eq_true rfl) (Nat.le_of_ble_eq_true rfl)
        · replace hw := hw.2 hc
          refine lv_iconst (v := (1 : Int32)) B.1.1 B.1.2.1 dX1_placeOf_20 (by decide) ?_
          refine lv_goto (tgt := 25) B.1.1 B.1.2.1 dX1_placeOf_21 (by decide) ?_
          refine lv_istore_n (i := 2) (lv' := [(2, .int (1 : Int32)), (0, .int x0), (1, .int x1)]) B.1.1 B.1.2.1 dX1_placeOf_25 rfl hl (by decide) rfl (fun ls hl9 => ?_)
          replace hl := hl9
          clear hl9
          refine lv_iload_n B.1.1 B.1.2.1 dX1_placeOf_26 rfl (lv_at hl 0 rfl) ?_
          refine lv_if_eq (tgt := 39) B.1.1 B.1.2.1 dX1_placeOf_27 (by decide) (fun hc => absurd hc (by decide)) (fun _ => ?_)
          refine lv_iload_n B.1.1 B.1.2.1 dX1_placeOf_30 rfl (lv_at hl 1 rfl) ?_
          refine lv_bipush (v := (32 : Int32)) B.1.1 B.1.2.1 dX1_placeOf_31 (by decide) ?_
          refine lv_imul B.1.1 B.1.2.1 dX1_placeOf_33 ?_
          refine lv_iload_n B.1.1 B.1.2.1 dX1_placeOf_34 rfl (lv_at hl 2 rfl) ?_
          refine lv_iadd B.1.1 B.1.2.1 dX1_placeOf_35 ?_
          refine lv_goto (tgt := 40) B.1.1 B.1.2.1 dX1_placeOf_36 (by decide) ?_
          exact q_iret B hr hlk h hw dX1_placeOf_40 (Nat.le_of_ble_eq_true rfl) (Nat.le_of_ble_eq_true rfl)
set_option maxHeartbeats 4000000 in
set_option maxRecDepth 100000 in
theorem met_X1_at (l : Launch) (a0 : Nat) (x1 : Int32) (x2 : Int32) : MI l yX1_at cX1_at 4 (some .int) 1 22 0 0 [.ref a0, .int x1, .int x2] (wX1_at a0 x1 x2) := by
  refine MI.of (by decide) (Nat.le_of_ble_eq_true rfl) ?_
  intro p e s m below meth c D cs lo S Q ls B hr hlk hin
  intro h hl hw
  replace hl : lv_has ls 4 [(0, .ref a0), (1, .int x1), (2, .int x2)] := hl
  refine lv_iload_n B.1.1 B.1.2.1 dX1_at_0 rfl (lv_at hl 1 rfl) ?_
  refine lv_iload_n B.1.1 B.1.2.1 dX1_at_1 rfl (lv_at hl 2 rfl) ?_
  refine q_callIS B h (met_X1_placeOf l x1 x2) (CB B 2 kC_X1_placeOf kI_RX1 kM_RX1_15 hd_X1_placeOf ⟨Nat.le_of_ble_eq_true rfl, Nat.le_of_ble_eq_true rfl⟩) kS_X1_placeOf (rest := []) rfl rfl hl.1 (Nat.le_of_ble_eq_true rfl) dX1_at_2 ⟨Nat.le_of_ble_eq_true rfl, Nat.le_of_ble_eq_true rfl⟩ hw (fun r1 S1 H locs hw9 h9 => ?_)
  replace hw := hw9
  clear hw9
  replace h := h9
  clear h9
  refine lv_istore_n (i := 3) (lv' := [(3, .int r1), (0, .ref a0), (1, .int x1), (2, .int x2)]) B.1.1 B.1.2.1 dX1_at_5 rfl hl (by decide) rfl (fun ls hl9 => ?_)
  replace hl := hl9
  clear hl9
  refine lv_iload_n B.1.1 B.1.2.1 dX1_at_6 rfl (lv_at hl 0 rfl) ?_
  refine lv_if_lt (tgt := 28) B.1.1 B.1.2.1 dX1_at_7 (by decide) (fun hc => ?_) (fun hc => ?_)
  · replace hw := hw.1 hc
    refine lv_iconst (v := (0 : Int32)) B.1.1 B.1.2.1 dX1_at_28 (by decide) ?_
    exact q_iret B hr hlk h hw dX1_at_29 (Nat.le_of_ble_eq_true rfl) (Nat.le_of_ble_eq_true rfl)
  · replace hw := hw.2 hc
    refine lv_iload_n B.1.1 B.1.2.1 dX1_at_10 rfl (lv_at hl 0 rfl) ?_
    refine lv_aload_n B.1.1 B.1.2.1 dX1_at_11 rfl (lv_at hl 1 rfl) ?_
    obtain ⟨hok, hw⟩ := hw
    refine q_getR B h (ci := 1) (j := 0) (code := 32) rfl inT_1 (by decide) kF_RX1_9 rfl rfl rfl (by decide) dX1_at_12 hok.1 hok.2 ?_
    obtain ⟨o1, hoo1⟩ : ∃ z, z = gR S1 32 a0 := ⟨_, rfl⟩
    rw [← hoo1]
    replace hw := hw o1 hoo1
    obtain ⟨q1, hn, hw⟩ := hw
    subst hn
    replace hl : lv_has ls 4 [(3, .int r1), (0, .ref a0), (1, .int x1), (2, .int x2)] := hl
    obtain ⟨hok, hw⟩ := hw
    refine q_alen B h dX1_at_15 hok.1 (by rw [hok.2]; decide) (by rw [hok.2]; decide) ?_
    refine lv_icmp_ge (tgt := 28) B.1.1 B.1.2.1 dX1_at_16 (by decide) (fun hc => ?_) (fun hc => ?_)
    · replace hw := hw.1 hc
      refine lv_iconst (v := (0 : Int32)) B.1.1 B.1.2.1 dX1_at_28 (by decide) ?_
      exact q_iret B hr hlk h hw dX1_at_29 (Nat.le_of_ble_eq_true rfl) (Nat.le_of_ble_eq_true rfl)
    · replace hw := hw.2 hc
      refine lv_aload_n B.1.1 B.1.2.1 dX1_at_19 rfl (lv_at hl 1 rfl) ?_
      obtain ⟨hok, hw⟩ := hw
      refine q_getR B h (ci := 1) (j := 0) (code := 32) rfl inT_1 (by decide) kF_RX1_9 rfl rfl rfl (by decide) dX1_at_20 hok.1 hok.2 ?_
      obtain ⟨o2, hoo2⟩ : ∃ z, z = gR S1 32 a0 := ⟨_, rfl⟩
      rw [← hoo2]
      replace hw := hw o2 hoo2
      refine lv_iload_n B.1.1 B.1.2.1 dX1_at_23 rfl (lv_at hl 0 rfl) ?_
      obtain ⟨q2, hn, hw⟩ := hw
      subst hn
      replace hl : lv_has ls 4 [(3, .int r1), (0, .ref a0), (1, .int x1), (2, .int x2)] := hl
      obtain ⟨hok, hin9, hw⟩ := hw
      refine q_iald B h dX1_at_24 hok.1 hok.2 hin9 ?_
      refine lv_goto (tgt := 29) B.1.1 B.1.2.1 dX1_at_25 (by decide) ?_
      exact q_iret B hr hlk h hw dX1_at_29 (Nat.le_of_ble_eq_true rfl) (Nat.le_of_ble_eq_true rfl)
set_option maxHeartbeats 4000000 in
set_option maxRecDepth 100000 in
theorem met_X1_replace (l : Launch) (a0 : Nat) (x1 : Int32) (x2 : Int32) (x3 : Int32) : MI l yX1_replace cX1_replace 6 (some .int) 1 22 0 0 [.ref a0, .int x1, .int x2, .int x3] (wX1_replace a0 x1 x2 x3) := by
  refine MI.of (by decide) (Nat.le_of_ble_eq_true rfl) ?_
  intro p e s m below meth c D cs lo S Q ls B hr hlk hin
  intro h hl hw
  replace hl : lv_has ls 6 [(0, .ref a0), (1, .int x1), (2, .int x2), (3, .int x3)] := hl
  refine lv_iload_n B.1.1 B.1.2.1 dX1_replace_0 rfl (lv_at hl 1 rfl) ?_
  refine lv_iload_n B.1.1 B.1.2.1 dX1_replace_1 rfl (lv_at hl 2 rfl) ?_
  refine q_callIS B h (met_X1_placeOf l x1 x2) (CB B 2 kC_X1_placeOf kI_RX1 kM_RX1_15 hd_X1_placeOf ⟨Nat.le_of_ble_eq_true rfl, Nat.le_of_ble_eq_true rfl⟩) kS_X1_placeOf (rest := []) rfl rfl hl.1 (Nat.le_of_ble_eq_true rfl) dX1_replace_2 ⟨Nat.le_of_ble_eq_true rfl, Nat.le_of_ble_eq_true rfl⟩ hw (fun r1 S1 H locs hw9 h9 => ?_)
  replace hw := hw9
  clear hw9
  replace h := h9
  clear h9
  refine lv_istore (i := 4) (lv' := [(4, .int r1), (0, .ref a0), (1, .int x1), (2, .int x2), (3, .int x3)]) B.1.1 B.1.2.1 dX1_replace_5 hl (by decide) rfl (fun ls hl9 => ?_)
  replace hl := hl9
  clear hl9
  refine lv_iload B.1.1 B.1.2.1 dX1_replace_7 (lv_at hl 0 rfl) ?_
  refine lv_if_lt (tgt := 22) B.1.1 B.1.2.1 dX1_replace_9 (by decide) (fun hc => ?_) (fun hc => ?_)
  · replace hw := hw.1 hc
    refine lv_iconst (v := (0 : Int32)) B.1.1 B.1.2.1 dX1_replace_22 (by decide) ?_
    exact q_iret B hr hlk h hw dX1_replace_23 (Nat.le_of_ble_eq_true rfl) (Nat.le_of_ble_eq_true rfl)
  · replace hw := hw.2 hc
    refine lv_iload B.1.1 B.1.2.1 dX1_replace_12 (lv_at hl 0 rfl) ?_
    refine lv_aload_n B.1.1 B.1.2.1 dX1_replace_14 rfl (lv_at hl 1 rfl) ?_
    obtain ⟨hok, hw⟩ := hw
    refine q_getR B h (ci := 1) (j := 0) (code := 32) rfl inT_1 (by decide) kF_RX1_9 rfl rfl rfl (by decide) dX1_replace_15 hok.1 hok.2 ?_
    obtain ⟨o1, hoo1⟩ : ∃ z, z = gR S1 32 a0 := ⟨_, rfl⟩
    rw [← hoo1]
    replace hw := hw o1 hoo1
    obtain ⟨q1, hn, hw⟩ := hw
    subst hn
    replace hl : lv_has ls 6 [(4, .int r1), (0, .ref a0), (1, .int x1), (2, .int x2), (3, .int x3)] := hl
    obtain ⟨hok, hw⟩ := hw
    refine q_alen B h dX1_replace_18 hok.1 (by rw [hok.2]; decide) (by rw [hok.2]; decide) ?_
    refine lv_icmp_lt (tgt := 24) B.1.1 B.1.2.1 dX1_replace_19 (by decide) (fun hc => ?_) (fun hc => ?_)
    · replace hw := hw.1 hc
      refine lv_aload_n B.1.1 B.1.2.1 dX1_replace_24 rfl (lv_at hl 1 rfl) ?_
      obtain ⟨hok, hw⟩ := hw
      refine q_getR B h (ci := 1) (j := 0) (code := 32) rfl inT_1 (by decide) kF_RX1_9 rfl rfl rfl (by decide) dX1_replace_25 hok.1 hok.2 ?_
      obtain ⟨o2, hoo2⟩ : ∃ z, z = gR S1 32 a0 := ⟨_, rfl⟩
      rw [← hoo2]
      replace hw := hw o2 hoo2
      refine lv_iload B.1.1 B.1.2.1 dX1_replace_28 (lv_at hl 0 rfl) ?_
      obtain ⟨q2, hn, hw⟩ := hw
      subst hn
      replace hl : lv_has ls 6 [(4, .int r1), (0, .ref a0), (1, .int x1), (2, .int x2), (3, .int x3)] := hl
      obtain ⟨hok, hin9, hw⟩ := hw
      refine q_iald B h dX1_replace_30 hok.1 hok.2 hin9 ?_
      refine lv_istore (i := 5) (lv' := [(5, .int (gA S1 q2 r1.toNatClampNeg)), (4, .int r1), (0, .ref a0), (1, .int x1), (2, .int x2), (3, .int x3)]) B.1.1 B.1.2.1 dX1_replace_31 hl (by decide) rfl (fun ls hl9 => ?_)
      replace hl := hl9
      clear hl9
      refine lv_aload_n B.1.1 B.1.2.1 dX1_replace_33 rfl (lv_at hl 2 rfl) ?_
      obtain ⟨hok, hw⟩ := hw
      refine q_getR B h (ci := 1) (j := 0) (code := 32) rfl inT_1 (by decide) kF_RX1_9 rfl rfl rfl (by decide) dX1_replace_34 hok.1 hok.2 ?_
      obtain ⟨o3, hoo3⟩ : ∃ z, z = gR S1 32 a0 := ⟨_, rfl⟩
      rw [← hoo3]
      replace hw := hw o3 hoo3
      refine lv_iload B.1.1 B.1.2.1 dX1_replace_37 (lv_at hl 1 rfl) ?_
      refine lv_iload_n B.1.1 B.1.2.1 dX1_replace_39 rfl (lv_at hl 5 rfl) ?_
      obtain ⟨q3, hn, hw⟩ := hw
      subst hn
      replace hl : lv_has ls 6 [(5, .int (gA S1 q2 r1.toNatClampNeg)), (4, .int r1), (0, .ref a0), (1, .int x1), (2, .int x2), (3, .int x3)] := hl
      obtain ⟨hok, hin9, hw⟩ := hw
      refine q_iast B h dX1_replace_40 hok.1 hok.2 hin9 (fun H locs h9 => ?_)
      obtain ⟨S2, hS2, hh⟩ : ∃ z, z = sA S1 q3 r1.toNatClampNeg x3 ∧ Hx D cs lo s z H _ := ⟨_, rfl, h9⟩
      clear h9
      replace h := hh
      clear hh
      replace hw := hw S2 hS2
      refine lv_iload B.1.1 B.1.2.1 dX1_replace_41 (lv_at hl 0 rfl) ?_
      exact q_iret B hr hlk h hw dX1_replace_43 (Nat.le_of_ble_eq_true rfl) (Nat.le_of_ble_eq_true rfl)
    · replace hw := hw.2 hc
      refine lv_iconst (v := (0 : Int32)) B.1.1 B.1.2.1 dX1_replace_22 (by decide) ?_
      exact q_iret B hr hlk h hw dX1_replace_23 (Nat.le_of_ble_eq_true rfl) (Nat.le_of_ble_eq_true rfl)
set_option maxHeartbeats 4000000 in
set_option maxRecDepth 100000 in
theorem met_X3_wasPrinted (l : Launch) (a0 : Nat) : MI l yX3_wasPrinted cX3_wasPrinted 1 (some .boolean) 0 0 0 0 [.ref a0] (wX3_wasPrinted a0) := by
  refine MI.of (by decide) (Nat.le_of_ble_eq_true rfl) ?_
  intro p e s m below meth c D cs lo S Q ls B hr hlk hin
  intro h hl hw
  replace hl : lv_has ls 1 [(0, .ref a0)] := hl
  refine lv_aload_n B.1.1 B.1.2.1 dX3_wasPrinted_0 rfl (lv_at hl 0 rfl) ?_
  obtain ⟨hok, hw⟩ := hw
  refine q_getI B h (ci := 3) (j := 8) (code := 104) rfl inT_3 (by decide) kF_RX3_26 rfl rfl rfl (by decide) dX3_wasPrinted_1 hok.1 hok.2 ?_
  refine lv_iconst (v := (-1 : Int32)) B.1.1 B.1.2.1 dX3_wasPrinted_4 (by decide) ?_
  refine lv_icmp_eq (tgt := 12) B.1.1 B.1.2.1 dX3_wasPrinted_5 (by decide) (fun hc => ?_) (fun hc => ?_)
  · replace hw := hw.1 hc
    refine lv_iconst (v := (0 : Int32)) B.1.1 B.1.2.1 dX3_wasPrinted_12 (by decide) ?_
    exact q_zret B hr hlk h (by decide) hw dX3_wasPrinted_13 (Nat.le_of_ble_eq_true rfl) (Nat.le_of_ble_eq_true rfl)
  · replace hw := hw.2 hc
    refine lv_iconst (v := (1 : Int32)) B.1.1 B.1.2.1 dX3_wasPrinted_8 (by decide) ?_
    refine lv_goto (tgt := 13) B.1.1 B.1.2.1 dX3_wasPrinted_9 (by decide) ?_
    exact q_zret B hr hlk h (by decide) hw dX3_wasPrinted_13 (Nat.le_of_ble_eq_true rfl) (Nat.le_of_ble_eq_true rfl)
set_option maxHeartbeats 4000000 in
set_option maxRecDepth 100000 in
theorem met_X3_shareOf (l : Launch) (a0 : Nat) (x1 : Int32) (x2 : Int32) : MI l yX3_shareOf cX3_shareOf 3 (some .int) 0 0 0 0 [.ref a0, .int x1, .int x2] (wX3_shareOf a0 x1 x2) := by
  refine MI.of (by decide) (Nat.le_of_ble_eq_true rfl) ?_
  intro p e s m below meth c D cs lo S Q ls B hr hlk hin
  intro h hl hw
  replace hl : lv_has ls 3 [(0, .ref a0), (1, .int x1), (2, .int x2)] := hl
  refine lv_iload_n B.1.1 B.1.2.1 dX3_shareOf_0 rfl (lv_at hl 2 rfl) ?_
  refine lv_aload_n B.1.1 B.1.2.1 dX3_shareOf_1 rfl (lv_at hl 0 rfl) ?_
  obtain ⟨hok, hw⟩ := hw
  refine q_getI B h (ci := 3) (j := 1) (code := 97) rfl inT_3 (by decide) kF_RX3_32 rfl rfl rfl (by decide) dX3_shareOf_2 hok.1 hok.2 ?_
  refine lv_icmp_lt (tgt := 16) B.1.1 B.1.2.1 dX3_shareOf_5 (by decide) (fun hc => ?_) (fun hc => ?_)
  · replace hw := hw.1 hc
    refine lv_iconst (v := (0 : Int32)) B.1.1 B.1.2.1 dX3_shareOf_16 (by decide) ?_
    exact q_iret B hr hlk h hw dX3_shareOf_17 (Nat.le_of_ble_eq_true rfl) (Nat.le_of_ble_eq_true rfl)
  · replace hw := hw.2 hc
    refine lv_iload_n B.1.1 B.1.2.1 dX3_shareOf_8 rfl (lv_at hl 2 rfl) ?_
    refine lv_aload_n B.1.1 B.1.2.1 dX3_shareOf_9 rfl (lv_at hl 0 rfl) ?_
    obtain ⟨hok, hw⟩ := hw
    refine q_getI B h (ci := 3) (j := 2) (code := 98) rfl inT_3 (by decide) kF_RX3_35 rfl rfl rfl (by decide) dX3_shareOf_10 hok.1 hok.2 ?_
    refine lv_icmp_lt (tgt := 18) B.1.1 B.1.2.1 dX3_shareOf_13 (by decide) (fun hc => ?_) (fun hc => ?_)
    · replace hw := hw.1 hc
      refine lv_iload_n B.1.1 B.1.2.1 dX3_shareOf_18 rfl (lv_at hl 2 rfl) ?_
      refine lv_aload_n B.1.1 B.1.2.1 dX3_shareOf_19 rfl (lv_at hl 0 rfl) ?_
      obtain ⟨hok, hw⟩ := hw
      refine q_getI B h (ci := 3) (j := 4) (code := 100) rfl inT_3 (by decide) kF_RX3_41 rfl rfl rfl (by decide) dX3_shareOf_20 hok.1 hok.2 ?_
      refine lv_icmp_lt (tgt := 32) B.1.1 B.1.2.1 dX3_shareOf_23 (by decide) (fun hc => ?_) (fun hc => ?_)
      · replace hw := hw.1 hc
        refine lv_iload_n B.1.1 B.1.2.1 dX3_shareOf_32 rfl (lv_at hl 2 rfl) ?_
        refine lv_aload_n B.1.1 B.1.2.1 dX3_shareOf_33 rfl (lv_at hl 0 rfl) ?_
        obtain ⟨hok, hw⟩ := hw
        refine q_getI B h (ci := 3) (j := 3) (code := 99) rfl inT_3 (by decide) kF_RX3_38 rfl rfl rfl (by decide) dX3_shareOf_34 hok.1 hok.2 ?_
        refine lv_icmp_ge (tgt := 46) B.1.1 B.1.2.1 dX3_shareOf_37 (by decide) (fun hc => ?_) (fun hc => ?_)
        · replace hw := hw.1 hc
          refine lv_iload_n B.1.1 B.1.2.1 dX3_shareOf_46 rfl (lv_at hl 1 rfl) ?_
          exact q_iret B hr hlk h hw dX3_shareOf_47 (Nat.le_of_ble_eq_true rfl) (Nat.le_of_ble_eq_true rfl)
        · replace hw := hw.2 hc
          refine lv_iload_n B.1.1 B.1.2.1 dX3_shareOf_40 rfl (lv_at hl 1 rfl) ?_
          refine lv_iconst (v := (2 : Int32)) B.1.1 B.1.2.1 dX3_shareOf_41 (by decide) ?_
          refine lv_idiv B.1.1 B.1.2.1 dX3_shareOf_42 (by decide) ?_
          refine lv_goto (tgt := 47) B.1.1 B.1.2.1 dX3_shareOf_43 (by decide) ?_
          exact q_iret B hr hlk h hw dX3_shareOf_47 (Nat.le_of_ble_eq_true rfl) (Nat.le_of_ble_eq_true rfl)
      · replace hw := hw.2 hc
        refine lv_iload_n B.1.1 B.1.2.1 dX3_shareOf_26 rfl (lv_at hl 1 rfl) ?_
        refine lv_iconst (v := (1 : Int32)) B.1.1 B.1.2.1 dX3_shareOf_27 (by decide) ?_
        refine lv_iadd B.1.1 B.1.2.1 dX3_shareOf_28 ?_
        refine lv_iconst (v := (2 : Int32)) B.1.1 B.1.2.1 dX3_shareOf_29 (by decide) ?_
        refine lv_idiv B.1.1 B.1.2.1 dX3_shareOf_30 (by decide) ?_
        exact q_iret B hr hlk h hw dX3_shareOf_31 (Nat.le_of_ble_eq_true rfl) (Nat.le_of_ble_eq_true rfl)
    · replace hw := hw.2 hc
      refine lv_iconst (v := (0 : Int32)) B.1.1 B.1.2.1 dX3_shareOf_16 (by decide) ?_
      exact q_iret B hr hlk h hw dX3_shareOf_17 (Nat.le_of_ble_eq_true rfl) (Nat.le_of_ble_eq_true rfl)
