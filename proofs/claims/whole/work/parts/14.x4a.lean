theorem dX4_isRow_0 : decode cX4_isRow 0 = .ok (.iload_n 0, 1) := by decide +kernel
theorem dX4_isRow_1 : decode cX4_isRow 1 = .ok (.ifCond .lt 13, 3) := by decide +kernel
theorem dX4_isRow_4 : decode cX4_isRow 4 = .ok (.iload_n 0, 1) := by decide +kernel
theorem dX4_isRow_5 : decode cX4_isRow 5 = .ok (.bipush 8, 2) := by decide +kernel
theorem dX4_isRow_7 : decode cX4_isRow 7 = .ok (.if_icmp .ge 7, 3) := by decide +kernel
theorem dX4_isRow_10 : decode cX4_isRow 10 = .ok (.iconst 1, 1) := by decide +kernel
theorem dX4_isRow_11 : decode cX4_isRow 11 = .ok (.goto 4, 3) := by decide +kernel
theorem dX4_isRow_14 : decode cX4_isRow 14 = .ok (.iconst 0, 1) := by decide +kernel
theorem dX4_isRow_15 : decode cX4_isRow 15 = .ok (.ireturn, 1) := by decide +kernel
theorem dX4_isWithin_0 : decode cX4_isWithin 0 = .ok (.iload_n 0, 1) := by decide +kernel
theorem dX4_isWithin_1 : decode cX4_isWithin 1 = .ok (.iload_n 1, 1) := by decide +kernel
theorem dX4_isWithin_2 : decode cX4_isWithin 2 = .ok (.if_icmp .lt 12, 3) := by decide +kernel
theorem dX4_isWithin_5 : decode cX4_isWithin 5 = .ok (.iload_n 0, 1) := by decide +kernel
theorem dX4_isWithin_6 : decode cX4_isWithin 6 = .ok (.iload_n 2, 1) := by decide +kernel
theorem dX4_isWithin_7 : decode cX4_isWithin 7 = .ok (.if_icmp .gt 7, 3) := by decide +kernel
theorem dX4_isWithin_10 : decode cX4_isWithin 10 = .ok (.iconst 1, 1) := by decide +kernel
theorem dX4_isWithin_11 : decode cX4_isWithin 11 = .ok (.goto 4, 3) := by decide +kernel
theorem dX4_isWithin_14 : decode cX4_isWithin 14 = .ok (.iconst 0, 1) := by decide +kernel
theorem dX4_isWithin_15 : decode cX4_isWithin 15 = .ok (.ireturn, 1) := by decide +kernel
theorem dX4_bannerAt_0 : decode cX4_bannerAt 0 = .ok (.iload_n 1, 1) := by decide +kernel
theorem dX4_bannerAt_1 : decode cX4_bannerAt 1 = .ok (.ifCond .lt 21, 3) := by decide +kernel
theorem dX4_bannerAt_4 : decode cX4_bannerAt 4 = .ok (.iload_n 1, 1) := by decide +kernel
theorem dX4_bannerAt_5 : decode cX4_bannerAt 5 = .ok (.aload_n 0, 1) := by decide +kernel
theorem dX4_bannerAt_6 : decode cX4_bannerAt 6 = .ok (.getfield 11, 3) := by decide +kernel
theorem dX4_bannerAt_9 : decode cX4_bannerAt 9 = .ok (.arraylength, 1) := by decide +kernel
theorem dX4_bannerAt_10 : decode cX4_bannerAt 10 = .ok (.if_icmp .ge 12, 3) := by decide +kernel
theorem dX4_bannerAt_13 : decode cX4_bannerAt 13 = .ok (.aload_n 0, 1) := by decide +kernel
theorem dX4_bannerAt_14 : decode cX4_bannerAt 14 = .ok (.getfield 11, 3) := by decide +kernel
theorem dX4_bannerAt_17 : decode cX4_bannerAt 17 = .ok (.iload_n 1, 1) := by decide +kernel
theorem dX4_bannerAt_18 : decode cX4_bannerAt 18 = .ok (.aaload, 1) := by decide +kernel
theorem dX4_bannerAt_19 : decode cX4_bannerAt 19 = .ok (.goto 4, 3) := by decide +kernel
theorem dX4_bannerAt_22 : decode cX4_bannerAt 22 = .ok (.aconst_null, 1) := by decide +kernel
theorem dX4_bannerAt_23 : decode cX4_bannerAt 23 = .ok (.areturn, 1) := by decide +kernel
theorem dX4_printerAt_0 : decode cX4_printerAt 0 = .ok (.iload_n 1, 1) := by decide +kernel
theorem dX4_printerAt_1 : decode cX4_printerAt 1 = .ok (.ifCond .lt 21, 3) := by decide +kernel
theorem dX4_printerAt_4 : decode cX4_printerAt 4 = .ok (.iload_n 1, 1) := by decide +kernel
theorem dX4_printerAt_5 : decode cX4_printerAt 5 = .ok (.aload_n 0, 1) := by decide +kernel
theorem dX4_printerAt_6 : decode cX4_printerAt 6 = .ok (.getfield 17, 3) := by decide +kernel
theorem dX4_printerAt_9 : decode cX4_printerAt 9 = .ok (.arraylength, 1) := by decide +kernel
theorem dX4_printerAt_10 : decode cX4_printerAt 10 = .ok (.if_icmp .ge 12, 3) := by decide +kernel
theorem dX4_printerAt_13 : decode cX4_printerAt 13 = .ok (.aload_n 0, 1) := by decide +kernel
theorem dX4_printerAt_14 : decode cX4_printerAt 14 = .ok (.getfield 17, 3) := by decide +kernel
theorem dX4_printerAt_17 : decode cX4_printerAt 17 = .ok (.iload_n 1, 1) := by decide +kernel
theorem dX4_printerAt_18 : decode cX4_printerAt 18 = .ok (.aaload, 1) := by decide +kernel
theorem dX4_printerAt_19 : decode cX4_printerAt 19 = .ok (.goto 4, 3) := by decide +kernel
theorem dX4_printerAt_22 : decode cX4_printerAt 22 = .ok (.aconst_null, 1) := by decide +kernel
theorem dX4_printerAt_23 : decode cX4_printerAt 23 = .ok (.areturn, 1) := by decide +kernel
theorem dX4_stripAt_0 : decode cX4_stripAt 0 = .ok (.aload_n 0, 1) := by decide +kernel
theorem dX4_stripAt_1 : decode cX4_stripAt 1 = .ok (.ifnonnull 7, 3) := by decide +kernel
theorem dX4_stripAt_4 : decode cX4_stripAt 4 = .ok (.aconst_null, 1) := by decide +kernel
theorem dX4_stripAt_5 : decode cX4_stripAt 5 = .ok (.goto 8, 3) := by decide +kernel
theorem dX4_stripAt_8 : decode cX4_stripAt 8 = .ok (.aload_n 0, 1) := by decide +kernel
theorem dX4_stripAt_9 : decode cX4_stripAt 9 = .ok (.iload_n 1, 1) := by decide +kernel
theorem dX4_stripAt_10 : decode cX4_stripAt 10 = .ok (.invokevirtual 221, 3) := by decide +kernel
theorem dX4_stripAt_13 : decode cX4_stripAt 13 = .ok (.areturn, 1) := by decide +kernel
theorem dX4_takeFirstWaiting_0 : decode cX4_takeFirstWaiting 0 = .ok (.aconst_null, 1) := by decide +kernel
theorem dX4_takeFirstWaiting_1 : decode cX4_takeFirstWaiting 1 = .ok (.astore_n 3, 1) := by decide +kernel
theorem dX4_takeFirstWaiting_2 : decode cX4_takeFirstWaiting 2 = .ok (.aconst_null, 1) := by decide +kernel
theorem dX4_takeFirstWaiting_3 : decode cX4_takeFirstWaiting 3 = .ok (.astore 4, 2) := by decide +kernel
theorem dX4_takeFirstWaiting_5 : decode cX4_takeFirstWaiting 5 = .ok (.iconst (-1), 1) := by decide +kernel
theorem dX4_takeFirstWaiting_6 : decode cX4_takeFirstWaiting 6 = .ok (.istore 5, 2) := by decide +kernel
theorem dX4_takeFirstWaiting_8 : decode cX4_takeFirstWaiting 8 = .ok (.iconst 0, 1) := by decide +kernel
theorem dX4_takeFirstWaiting_9 : decode cX4_takeFirstWaiting 9 = .ok (.istore 6, 2) := by decide +kernel
theorem dX4_takeFirstWaiting_11 : decode cX4_takeFirstWaiting 11 = .ok (.iload 6, 2) := by decide +kernel
theorem dX4_takeFirstWaiting_13 : decode cX4_takeFirstWaiting 13 = .ok (.aload_n 0, 1) := by decide +kernel
theorem dX4_takeFirstWaiting_14 : decode cX4_takeFirstWaiting 14 = .ok (.getfield 11, 3) := by decide +kernel
theorem dX4_takeFirstWaiting_17 : decode cX4_takeFirstWaiting 17 = .ok (.arraylength, 1) := by decide +kernel
theorem dX4_takeFirstWaiting_18 : decode cX4_takeFirstWaiting 18 = .ok (.if_icmp .ge 66, 3) := by decide +kernel
theorem dX4_takeFirstWaiting_21 : decode cX4_takeFirstWaiting 21 = .ok (.aload_n 0, 1) := by decide +kernel
theorem dX4_takeFirstWaiting_22 : decode cX4_takeFirstWaiting 22 = .ok (.getfield 11, 3) := by decide +kernel
theorem dX4_takeFirstWaiting_25 : decode cX4_takeFirstWaiting 25 = .ok (.iload 6, 2) := by decide +kernel
theorem dX4_takeFirstWaiting_27 : decode cX4_takeFirstWaiting 27 = .ok (.aaload, 1) := by decide +kernel
theorem dX4_takeFirstWaiting_28 : decode cX4_takeFirstWaiting 28 = .ok (.astore 7, 2) := by decide +kernel
theorem dX4_takeFirstWaiting_30 : decode cX4_takeFirstWaiting 30 = .ok (.aload 7, 2) := by decide +kernel
theorem dX4_takeFirstWaiting_32 : decode cX4_takeFirstWaiting 32 = .ok (.ifnull 46, 3) := by decide +kernel
theorem dX4_takeFirstWaiting_35 : decode cX4_takeFirstWaiting 35 = .ok (.aload_n 3, 1) := by decide +kernel
theorem dX4_takeFirstWaiting_36 : decode cX4_takeFirstWaiting 36 = .ok (.ifnull 18, 3) := by decide +kernel
theorem dX4_takeFirstWaiting_39 : decode cX4_takeFirstWaiting 39 = .ok (.aload 7, 2) := by decide +kernel
theorem dX4_takeFirstWaiting_41 : decode cX4_takeFirstWaiting 41 = .ok (.getfield 208, 3) := by decide +kernel
theorem dX4_takeFirstWaiting_44 : decode cX4_takeFirstWaiting 44 = .ok (.aload_n 3, 1) := by decide +kernel
theorem dX4_takeFirstWaiting_45 : decode cX4_takeFirstWaiting 45 = .ok (.getfield 208, 3) := by decide +kernel
theorem dX4_takeFirstWaiting_48 : decode cX4_takeFirstWaiting 48 = .ok (.if_icmp .lt 6, 3) := by decide +kernel
theorem dX4_takeFirstWaiting_51 : decode cX4_takeFirstWaiting 51 = .ok (.goto 27, 3) := by decide +kernel
theorem dX4_takeFirstWaiting_54 : decode cX4_takeFirstWaiting 54 = .ok (.aload 7, 2) := by decide +kernel
theorem dX4_takeFirstWaiting_56 : decode cX4_takeFirstWaiting 56 = .ok (.iload_n 2, 1) := by decide +kernel
theorem dX4_takeFirstWaiting_57 : decode cX4_takeFirstWaiting 57 = .ok (.invokevirtual 210, 3) := by decide +kernel
theorem dX4_takeFirstWaiting_60 : decode cX4_takeFirstWaiting 60 = .ok (.astore 8, 2) := by decide +kernel
theorem dX4_takeFirstWaiting_62 : decode cX4_takeFirstWaiting 62 = .ok (.aload 8, 2) := by decide +kernel
theorem dX4_takeFirstWaiting_64 : decode cX4_takeFirstWaiting 64 = .ok (.ifnull 14, 3) := by decide +kernel
theorem dX4_takeFirstWaiting_67 : decode cX4_takeFirstWaiting 67 = .ok (.aload 7, 2) := by decide +kernel
theorem dX4_takeFirstWaiting_69 : decode cX4_takeFirstWaiting 69 = .ok (.astore_n 3, 1) := by decide +kernel
theorem dX4_takeFirstWaiting_70 : decode cX4_takeFirstWaiting 70 = .ok (.aload 8, 2) := by decide +kernel
theorem dX4_takeFirstWaiting_72 : decode cX4_takeFirstWaiting 72 = .ok (.astore 4, 2) := by decide +kernel
theorem dX4_takeFirstWaiting_74 : decode cX4_takeFirstWaiting 74 = .ok (.iload 6, 2) := by decide +kernel
theorem dX4_takeFirstWaiting_76 : decode cX4_takeFirstWaiting 76 = .ok (.istore 5, 2) := by decide +kernel
theorem dX4_takeFirstWaiting_78 : decode cX4_takeFirstWaiting 78 = .ok (.iinc 6 1, 3) := by decide +kernel
theorem dX4_takeFirstWaiting_81 : decode cX4_takeFirstWaiting 81 = .ok (.goto (-70), 3) := by decide +kernel
theorem dX4_takeFirstWaiting_84 : decode cX4_takeFirstWaiting 84 = .ok (.aload_n 3, 1) := by decide +kernel
theorem dX4_takeFirstWaiting_85 : decode cX4_takeFirstWaiting 85 = .ok (.ifnull 17, 3) := by decide +kernel
theorem dX4_takeFirstWaiting_88 : decode cX4_takeFirstWaiting 88 = .ok (.aload 4, 2) := by decide +kernel
theorem dX4_takeFirstWaiting_90 : decode cX4_takeFirstWaiting 90 = .ok (.ifnull 12, 3) := by decide +kernel
theorem dX4_takeFirstWaiting_93 : decode cX4_takeFirstWaiting 93 = .ok (.aload_n 1, 1) := by decide +kernel
theorem dX4_takeFirstWaiting_94 : decode cX4_takeFirstWaiting 94 = .ok (.aload_n 3, 1) := by decide +kernel
theorem dX4_takeFirstWaiting_95 : decode cX4_takeFirstWaiting 95 = .ok (.aload 4, 2) := by decide +kernel
theorem dX4_takeFirstWaiting_97 : decode cX4_takeFirstWaiting 97 = .ok (.iload 5, 2) := by decide +kernel
theorem dX4_takeFirstWaiting_99 : decode cX4_takeFirstWaiting 99 = .ok (.invokevirtual 214, 3) := by decide +kernel
theorem dX4_takeFirstWaiting_102 : decode cX4_takeFirstWaiting 102 = .ok (.return_, 1) := by decide +kernel
theorem dX4_startIdlePrinters_0 : decode cX4_startIdlePrinters 0 = .ok (.iconst 0, 1) := by decide +kernel
theorem dX4_startIdlePrinters_1 : decode cX4_startIdlePrinters 1 = .ok (.istore_n 1, 1) := by decide +kernel
theorem dX4_startIdlePrinters_2 : decode cX4_startIdlePrinters 2 = .ok (.iload_n 1, 1) := by decide +kernel
theorem dX4_startIdlePrinters_3 : decode cX4_startIdlePrinters 3 = .ok (.aload_n 0, 1) := by decide +kernel
theorem dX4_startIdlePrinters_4 : decode cX4_startIdlePrinters 4 = .ok (.getfield 17, 3) := by decide +kernel
theorem dX4_startIdlePrinters_7 : decode cX4_startIdlePrinters 7 = .ok (.arraylength, 1) := by decide +kernel
theorem dX4_startIdlePrinters_8 : decode cX4_startIdlePrinters 8 = .ok (.if_icmp .ge 40, 3) := by decide +kernel
theorem dX4_startIdlePrinters_11 : decode cX4_startIdlePrinters 11 = .ok (.aload_n 0, 1) := by decide +kernel
theorem dX4_startIdlePrinters_12 : decode cX4_startIdlePrinters 12 = .ok (.getfield 17, 3) := by decide +kernel
theorem dX4_startIdlePrinters_15 : decode cX4_startIdlePrinters 15 = .ok (.iload_n 1, 1) := by decide +kernel
theorem dX4_startIdlePrinters_16 : decode cX4_startIdlePrinters 16 = .ok (.aaload, 1) := by decide +kernel
theorem dX4_startIdlePrinters_17 : decode cX4_startIdlePrinters 17 = .ok (.astore_n 2, 1) := by decide +kernel
theorem dX4_startIdlePrinters_18 : decode cX4_startIdlePrinters 18 = .ok (.aload_n 2, 1) := by decide +kernel
theorem dX4_startIdlePrinters_19 : decode cX4_startIdlePrinters 19 = .ok (.ifnull 23, 3) := by decide +kernel
theorem dX4_startIdlePrinters_22 : decode cX4_startIdlePrinters 22 = .ok (.aload_n 2, 1) := by decide +kernel
theorem dX4_startIdlePrinters_23 : decode cX4_startIdlePrinters 23 = .ok (.invokevirtual 120, 3) := by decide +kernel
theorem dX4_startIdlePrinters_26 : decode cX4_startIdlePrinters 26 = .ok (.ifCond .ne 16, 3) := by decide +kernel
theorem dX4_startIdlePrinters_29 : decode cX4_startIdlePrinters 29 = .ok (.aload_n 2, 1) := by decide +kernel
theorem dX4_startIdlePrinters_30 : decode cX4_startIdlePrinters 30 = .ok (.getfield 157, 3) := by decide +kernel
theorem dX4_startIdlePrinters_33 : decode cX4_startIdlePrinters 33 = .ok (.ifCond .le 9, 3) := by decide +kernel
theorem dX4_startIdlePrinters_36 : decode cX4_startIdlePrinters 36 = .ok (.aload_n 0, 1) := by decide +kernel
theorem dX4_startIdlePrinters_37 : decode cX4_startIdlePrinters 37 = .ok (.aload_n 2, 1) := by decide +kernel
theorem dX4_startIdlePrinters_38 : decode cX4_startIdlePrinters 38 = .ok (.iload_n 1, 1) := by decide +kernel
theorem dX4_startIdlePrinters_39 : decode cX4_startIdlePrinters 39 = .ok (.invokevirtual 204, 3) := by decide +kernel
theorem dX4_startIdlePrinters_42 : decode cX4_startIdlePrinters 42 = .ok (.iinc 1 1, 3) := by decide +kernel
theorem dX4_startIdlePrinters_45 : decode cX4_startIdlePrinters 45 = .ok (.goto (-43), 3) := by decide +kernel
theorem dX4_startIdlePrinters_48 : decode cX4_startIdlePrinters 48 = .ok (.return_, 1) := by decide +kernel
theorem dX4_endTick_0 : decode cX4_endTick 0 = .ok (.iconst 0, 1) := by decide +kernel
theorem dX4_endTick_1 : decode cX4_endTick 1 = .ok (.istore_n 1, 1) := by decide +kernel
theorem dX4_endTick_2 : decode cX4_endTick 2 = .ok (.iconst 0, 1) := by decide +kernel
theorem dX4_endTick_3 : decode cX4_endTick 3 = .ok (.istore_n 2, 1) := by decide +kernel
theorem dX4_endTick_4 : decode cX4_endTick 4 = .ok (.iload_n 2, 1) := by decide +kernel
theorem dX4_endTick_5 : decode cX4_endTick 5 = .ok (.aload_n 0, 1) := by decide +kernel
theorem dX4_endTick_6 : decode cX4_endTick 6 = .ok (.getfield 17, 3) := by decide +kernel
theorem dX4_endTick_9 : decode cX4_endTick 9 = .ok (.arraylength, 1) := by decide +kernel
theorem dX4_endTick_10 : decode cX4_endTick 10 = .ok (.if_icmp .ge 34, 3) := by decide +kernel
theorem dX4_endTick_13 : decode cX4_endTick 13 = .ok (.aload_n 0, 1) := by decide +kernel
theorem dX4_endTick_14 : decode cX4_endTick 14 = .ok (.getfield 17, 3) := by decide +kernel
theorem dX4_endTick_17 : decode cX4_endTick 17 = .ok (.iload_n 2, 1) := by decide +kernel
theorem dX4_endTick_18 : decode cX4_endTick 18 = .ok (.aaload, 1) := by decide +kernel
theorem dX4_endTick_19 : decode cX4_endTick 19 = .ok (.astore_n 3, 1) := by decide +kernel
theorem dX4_endTick_20 : decode cX4_endTick 20 = .ok (.aload_n 3, 1) := by decide +kernel
theorem dX4_endTick_21 : decode cX4_endTick 21 = .ok (.ifnull 17, 3) := by decide +kernel
theorem dX4_endTick_24 : decode cX4_endTick 24 = .ok (.aload_n 3, 1) := by decide +kernel
theorem dX4_endTick_25 : decode cX4_endTick 25 = .ok (.aload_n 0, 1) := by decide +kernel
theorem dX4_endTick_26 : decode cX4_endTick 26 = .ok (.getfield 25, 3) := by decide +kernel
theorem dX4_endTick_29 : decode cX4_endTick 29 = .ok (.invokevirtual 218, 3) := by decide +kernel
theorem dX4_endTick_32 : decode cX4_endTick 32 = .ok (.ifCond .eq 6, 3) := by decide +kernel
theorem dX4_endTick_35 : decode cX4_endTick 35 = .ok (.iinc 1 1, 3) := by decide +kernel
theorem dX4_endTick_38 : decode cX4_endTick 38 = .ok (.iinc 2 1, 3) := by decide +kernel
theorem dX4_endTick_41 : decode cX4_endTick 41 = .ok (.goto (-37), 3) := by decide +kernel
theorem dX4_endTick_44 : decode cX4_endTick 44 = .ok (.iload_n 1, 1) := by decide +kernel
theorem dX4_endTick_45 : decode cX4_endTick 45 = .ok (.ireturn, 1) := by decide +kernel

def wX4_isRow (x0 : Int32) (S : HS) (Q : Int32 → HS → Prop) : Prop := ((x0 < 0 → Q (0 : Int32) S) ∧ (¬ x0 < 0 → (((8 : Int32) ≤ x0 → Q (0 : Int32) S) ∧ (¬ (8 : Int32) ≤ x0 → Q (1 : Int32) S))))

def wX4_isWithin (x0 : Int32) (x1 : Int32) (x2 : Int32) (S : HS) (Q : Int32 → HS → Prop) : Prop := ((x0 < x1 → Q (0 : Int32) S) ∧ (¬ x0 < x1 → ((x2 < x0 → Q (0 : Int32) S) ∧ (¬ x2 < x0 → Q (1 : Int32) S))))

def wX4_bannerAt (a0 : Nat) (x1 : Int32) (S : HS) (Q : Option Nat → HS → Prop) : Prop := ((x1 < 0 → Q none S) ∧ (¬ x1 < 0 → (ok S a0 4 ∧ (∀ o1, o1 = gR S 128 a0 → (∃ q1, o1 = some q1 ∧ (ok S q1 8 ∧ (((nI (gN S q1)) ≤ x1 → Q none S) ∧ (¬ (nI (gN S q1)) ≤ x1 → (ok S a0 4 ∧ (∀ o2, o2 = gR S 128 a0 → (∃ q2, o2 = some q2 ∧ (ok S q2 8 ∧ vp_in x1 (gN S q2) ∧ (∀ o3, o3 = gQ S q2 x1.toNatClampNeg → Q o3 S)))))))))))))

def wX4_printerAt (a0 : Nat) (x1 : Int32) (S : HS) (Q : Option Nat → HS → Prop) : Prop := ((x1 < 0 → Q none S) ∧ (¬ x1 < 0 → (ok S a0 4 ∧ (∀ o1, o1 = gR S 129 a0 → (∃ q1, o1 = some q1 ∧ (ok S q1 9 ∧ (((nI (gN S q1)) ≤ x1 → Q none S) ∧ (¬ (nI (gN S q1)) ≤ x1 → (ok S a0 4 ∧ (∀ o2, o2 = gR S 129 a0 → (∃ q2, o2 = some q2 ∧ (ok S q2 9 ∧ vp_in x1 (gN S q2) ∧ (∀ o3, o3 = gQ S q2 x1.toNatClampNeg → Q o3 S)))))))))))))

def wX4_stripAt (p0 : Option Nat) (x1 : Int32) (S : HS) (Q : Option Nat → HS → Prop) : Prop := ((p0 = none → Q none S) ∧ (∀ q1, p0 = some q1 → (ok S q1 0 ∧ (wX0_stripOf q1 x1 S (fun o1 S1 => Q o1 S1)))))
def wX4_takeFirstWaiting_L11 (c0 : Nat) (c1 : Option Nat) (c2 : Int32) : Nat → Option Nat → Option Nat → Int32 → Int32 → HS → (Option Nat → Option Nat → Int32 → Int32 → HS → Prop) → Prop
  | 0, _, _, _, _, _, _ => False
  | n + 1, m3, m4, m5, m6, S, K => (ok S c0 4 ∧ (∀ o1, o1 = gR S 128 c0 → (∃ q1, o1 = some q1 ∧ (ok S q1 8 ∧ (((nI (gN S q1)) ≤ m6 → K m3 m4 m5 m6 S) ∧ (¬ (nI (gN S q1)) ≤ m6 → (ok S c0 4 ∧ (∀ o2, o2 = gR S 128 c0 → (∃ q2, o2 = some q2 ∧ (ok S q2 8 ∧ vp_in m6 (gN S q2) ∧ (∀ o3, o3 = gQ S q2 m6.toNatClampNeg → ((o3 = none → wX4_takeFirstWaiting_L11 c0 c1 c2 n m3 m4 m5 (m6 + (1 : Int32)) S K) ∧ (∀ q3, o3 = some q3 → ((m3 = none → (ok S q3 0 ∧ (wX0_firstWaitingFor q3 c2 S (fun o4 S1 => ((o4 = none → wX4_takeFirstWaiting_L11 c0 c1 c2 n none m4 m5 (m6 + (1 : Int32)) S1 K) ∧ (∀ q5, o4 = some q5 → wX4_takeFirstWaiting_L11 c0 c1 c2 n (some q3) (some q5) m6 (m6 + (1 : Int32)) S1 K)))))) ∧ (∀ q4, m3 = some q4 → (ok S q3 0 ∧ (ok S q4 0 ∧ (((gI S 2 q3) < (gI S 2 q4) → (ok S q3 0 ∧ (wX0_firstWaitingFor q3 c2 S (fun o5 S2 => ((o5 = none → wX4_takeFirstWaiting_L11 c0 c1 c2 n (some q4) m4 m5 (m6 + (1 : Int32)) S2 K) ∧ (∀ q6, o5 = some q6 → wX4_takeFirstWaiting_L11 c0 c1 c2 n (some q3) (some q6) m6 (m6 + (1 : Int32)) S2 K)))))) ∧ (¬ (gI S 2 q3) < (gI S 2 q4) → wX4_takeFirstWaiting_L11 c0 c1 c2 n (some q4) m4 m5 (m6 + (1 : Int32)) S K)))))))))))))))))))
def wX4_takeFirstWaiting (a0 : Nat) (p1 : Option Nat) (x2 : Int32) (S : HS) (Q : HS → Prop) : Prop := (∃ n1 : Nat, wX4_takeFirstWaiting_L11 a0 p1 x2 n1 none none (-1 : Int32) (0 : Int32) S (fun u1 u2 u3 u4 S3 => ((u1 = none → Q S3) ∧ (∀ q7, u1 = some q7 → ((u2 = none → Q S3) ∧ (∀ q8, u2 = some q8 → (∃ q9, p1 = some q9 ∧ (ok S3 q9 2 ∧ (wX2_start q9 (some q7) (some q8) u3 S3 (fun S4 => Q S4))))))))))
def wX4_startIdlePrinters_L2 (c0 : Nat) : Nat → Int32 → HS → (Int32 → HS → Prop) → Prop
  | 0, _, _, _ => False
  | n + 1, m1, S, K => (ok S c0 4 ∧ (∀ o1, o1 = gR S 129 c0 → (∃ q1, o1 = some q1 ∧ (ok S q1 9 ∧ (((nI (gN S q1)) ≤ m1 → K m1 S) ∧ (¬ (nI (gN S q1)) ≤ m1 → (ok S c0 4 ∧ (∀ o2, o2 = gR S 129 c0 → (∃ q2, o2 = some q2 ∧ (ok S q2 9 ∧ vp_in m1 (gN S q2) ∧ (∀ o3, o3 = gQ S q2 m1.toNatClampNeg → ((o3 = none → wX4_startIdlePrinters_L2 c0 n (m1 + (1 : Int32)) S K) ∧ (∀ q3, o3 = some q3 → (ok S q3 2 ∧ (wX2_isPrinting q3 S (fun r1 S1 => ((¬ r1 = 0 → wX4_startIdlePrinters_L2 c0 n (m1 + (1 : Int32)) S1 K) ∧ (r1 = 0 → (ok S1 q3 2 ∧ (((gI S1 69 q3) ≤ 0 → wX4_startIdlePrinters_L2 c0 n (m1 + (1 : Int32)) S1 K) ∧ (¬ (gI S1 69 q3) ≤ 0 → (ok S1 c0 4 ∧ (wX4_takeFirstWaiting c0 (some q3) m1 S1 (fun S2 => wX4_startIdlePrinters_L2 c0 n (m1 + (1 : Int32)) S2 K))))))))))))))))))))))))
def wX4_startIdlePrinters (a0 : Nat) (S : HS) (Q : HS → Prop) : Prop := (∃ n1 : Nat, wX4_startIdlePrinters_L2 a0 n1 (0 : Int32) S (fun u1 S3 => Q S3))
def wX4_endTick_L4 (c0 : Nat) : Nat → Int32 → Int32 → HS → (Int32 → Int32 → HS → Prop) → Prop
  | 0, _, _, _, _ => False
  | n + 1, m1, m2, S, K => (ok S c0 4 ∧ (∀ o1, o1 = gR S 129 c0 → (∃ q1, o1 = some q1 ∧ (ok S q1 9 ∧ (((nI (gN S q1)) ≤ m2 → K m1 m2 S) ∧ (¬ (nI (gN S q1)) ≤ m2 → (ok S c0 4 ∧ (∀ o2, o2 = gR S 129 c0 → (∃ q2, o2 = some q2 ∧ (ok S q2 9 ∧ vp_in m2 (gN S q2) ∧ (∀ o3, o3 = gQ S q2 m2.toNatClampNeg → ((o3 = none → wX4_endTick_L4 c0 n m1 (m2 + (1 : Int32)) S K) ∧ (∀ q3, o3 = some q3 → (ok S c0 4 ∧ (ok S q3 2 ∧ (wX2_endsStrip q3 (gI S 131 c0) S (fun r1 S1 => ((r1 = 0 → wX4_endTick_L4 c0 n m1 (m2 + (1 : Int32)) S1 K) ∧ (¬ r1 = 0 → wX4_endTick_L4 c0 n (m1 + (1 : Int32)) (m2 + (1 : Int32)) S1 K)))))))))))))))))))
def wX4_endTick (a0 : Nat) (S : HS) (Q : Int32 → HS → Prop) : Prop := (∃ n1 : Nat, wX4_endTick_L4 a0 n1 (0 : Int32) (0 : Int32) S (fun u1 u2 S2 => Q u1 S2))
theorem kF_RX4_11 : Cond.fieldLink RX4 11 RX4 (TX4 0).2.1 (TX4 0).2.2.1 ∈ T0 := T0_mem (i := 101) (by decide +kernel) (by decide +kernel)
theorem inT_4 : ∀ w ∈ u_ws RX4 TX4 4, w ∈ T0 := inT [105, 107, 109, 111] (by decide +kernel) (by decide +kernel)
theorem kF_RX4_17 : Cond.fieldLink RX4 17 RX4 (TX4 1).2.1 (TX4 1).2.2.1 ∈ T0 := T0_mem (i := 102) (by decide +kernel) (by decide +kernel)
theorem kC_X0_stripOf : Cond.code yX0_stripOf cX0_stripOf 2 (some (.object "StitchBanner$Strip")) ∈ T0 := T0_mem (i := 380) (by decide +kernel) (by decide +kernel)
theorem kM_RX4_221 : Cond.methodLink RX4 221 yX0_stripOf ∈ T0 := T0_mem (i := 377) (by decide +kernel) (by decide +kernel)
theorem hd_X0_stripOf : yX0_stripOf.cls ≠ "java/lang/invoke/MethodHandle" ∧ yX0_stripOf.cls ≠ "java/lang/invoke/VarHandle" ∧ (parseMethodDescriptor yX0_stripOf.desc).map (fun d => d.parameters.length) = some 1 := by decide +kernel
theorem kO_X0_stripOf : Cond.instanceMethod yX0_stripOf ∈ T0 := T0_mem (i := 378) (by decide +kernel) (by decide +kernel)
theorem kV_X0_stripOf : Cond.selects RX0 yX0_stripOf yX0_stripOf ∈ T0 := T0_mem (i := 379) (by decide +kernel) (by decide +kernel)
theorem kC_X0_firstWaitingFor : Cond.code yX0_firstWaitingFor cX0_firstWaitingFor 4 (some (.object "StitchBanner$Strip")) ∈ T0 := T0_mem (i := 507) (by decide +kernel) (by decide +kernel)
theorem kM_RX4_210 : Cond.methodLink RX4 210 yX0_firstWaitingFor ∈ T0 := T0_mem (i := 504) (by decide +kernel) (by decide +kernel)
theorem hd_X0_firstWaitingFor : yX0_firstWaitingFor.cls ≠ "java/lang/invoke/MethodHandle" ∧ yX0_firstWaitingFor.cls ≠ "java/lang/invoke/VarHandle" ∧ (parseMethodDescriptor yX0_firstWaitingFor.desc).map (fun d => d.parameters.length) = some 1 := by decide +kernel
theorem kO_X0_firstWaitingFor : Cond.instanceMethod yX0_firstWaitingFor ∈ T0 := T0_mem (i := 505) (by decide +kernel) (by decide +kernel)
theorem kV_X0_firstWaitingFor : Cond.selects RX0 yX0_firstWaitingFor yX0_firstWaitingFor ∈ T0 := T0_mem (i := 506) (by decide +kernel) (by decide +kernel)
theorem kF_RX4_208 : Cond.fieldLinkNest RX4 208 RX0 (TX0 2).2.1 (TX0 2).2.2.1 "StitchBanner" ∈ T0 := T0_mem (i := 286) (by decide +kernel) (by decide +kernel)
theorem kC_X2_start : Cond.code yX2_start cX2_start 4 none ∈ T0 := T0_mem (i := 511) (by decide +kernel) (by decide +kernel)
theorem kM_RX4_214 : Cond.methodLink RX4 214 yX2_start ∈ T0 := T0_mem (i := 508) (by decide +kernel) (by decide +kernel)
theorem hd_X2_start : yX2_start.cls ≠ "java/lang/invoke/MethodHandle" ∧ yX2_start.cls ≠ "java/lang/invoke/VarHandle" ∧ (parseMethodDescriptor yX2_start.desc).map (fun d => d.parameters.length) = some 3 := by decide +kernel
theorem kO_X2_start : Cond.instanceMethod yX2_start ∈ T0 := T0_mem (i := 509) (by decide +kernel) (by decide +kernel)
theorem kV_X2_start : Cond.selects RX2 yX2_start yX2_start ∈ T0 := T0_mem (i := 510) (by decide +kernel) (by decide +kernel)
theorem kC_X2_isPrinting : Cond.code yX2_isPrinting cX2_isPrinting 1 (some .boolean) ∈ T0 := T0_mem (i := 444) (by decide +kernel) (by decide +kernel)
theorem kM_RX4_120 : Cond.methodLink RX4 120 yX2_isPrinting ∈ T0 := T0_mem (i := 441) (by decide +kernel) (by decide +kernel)
theorem hd_X2_isPrinting : yX2_isPrinting.cls ≠ "java/lang/invoke/MethodHandle" ∧ yX2_isPrinting.cls ≠ "java/lang/invoke/VarHandle" ∧ (parseMethodDescriptor yX2_isPrinting.desc).map (fun d => d.parameters.length) = some 0 := by decide +kernel
theorem kO_X2_isPrinting : Cond.instanceMethod yX2_isPrinting ∈ T0 := T0_mem (i := 442) (by decide +kernel) (by decide +kernel)
theorem kV_X2_isPrinting : Cond.selects RX2 yX2_isPrinting yX2_isPrinting ∈ T0 := T0_mem (i := 443) (by decide +kernel) (by decide +kernel)
theorem kF_RX4_157 : Cond.fieldLinkNest RX4 157 RX2 (TX2 5).2.1 (TX2 5).2.2.1 "StitchBanner" ∈ T0 := T0_mem (i := 71) (by decide +kernel) (by decide +kernel)
theorem kC_X4_takeFirstWaiting : Cond.code yX4_takeFirstWaiting cX4_takeFirstWaiting 9 none ∈ T0 := T0_mem (i := 503) (by decide +kernel) (by decide +kernel)
theorem kI_RX4 : Cond.initialized RX4 ∈ T0 := T0_mem (i := 33) (by decide +kernel) (by decide +kernel)
theorem kM_RX4_204 : Cond.methodLink RX4 204 yX4_takeFirstWaiting ∈ T0 := T0_mem (i := 500) (by decide +kernel) (by decide +kernel)
theorem hd_X4_takeFirstWaiting : yX4_takeFirstWaiting.cls ≠ "java/lang/invoke/MethodHandle" ∧ yX4_takeFirstWaiting.cls ≠ "java/lang/invoke/VarHandle" ∧ (parseMethodDescriptor yX4_takeFirstWaiting.desc).map (fun d => d.parameters.length) = some 2 := by decide +kernel
theorem kO_X4_takeFirstWaiting : Cond.instanceMethod yX4_takeFirstWaiting ∈ T0 := T0_mem (i := 502) (by decide +kernel) (by decide +kernel)
theorem kV_X4_takeFirstWaiting : Cond.selects RX4 yX4_takeFirstWaiting yX4_takeFirstWaiting ∈ T0 := T0_mem (i := 7) (by decide +kernel) (by decide +kernel)
theorem kF_RX4_25 : Cond.fieldLink RX4 25 RX4 (TX4 3).2.1 (TX4 3).2.2.1 ∈ T0 := T0_mem (i := 104) (by decide +kernel) (by decide +kernel)
theorem kC_X2_endsStrip : Cond.code yX2_endsStrip cX2_endsStrip 4 (some .boolean) ∈ T0 := T0_mem (i := 519) (by decide +kernel) (by decide +kernel)
theorem kM_RX4_218 : Cond.methodLink RX4 218 yX2_endsStrip ∈ T0 := T0_mem (i := 516) (by decide +kernel) (by decide +kernel)
theorem hd_X2_endsStrip : yX2_endsStrip.cls ≠ "java/lang/invoke/MethodHandle" ∧ yX2_endsStrip.cls ≠ "java/lang/invoke/VarHandle" ∧ (parseMethodDescriptor yX2_endsStrip.desc).map (fun d => d.parameters.length) = some 1 := by decide +kernel
theorem kO_X2_endsStrip : Cond.instanceMethod yX2_endsStrip ∈ T0 := T0_mem (i := 517) (by decide +kernel) (by decide +kernel)
theorem kV_X2_endsStrip : Cond.selects RX2 yX2_endsStrip yX2_endsStrip ∈ T0 := T0_mem (i := 518) (by decide +kernel) (by decide +kernel)
set_option maxHeartbeats 4000000 in
set_option maxRecDepth 100000 in
theorem met_X4_isRow (l : Launch) (x0 : Int32) : MI l yX4_isRow cX4_isRow 1 (some .boolean) 0 0 0 0 [.int x0] (wX4_isRow x0) := by
  refine MI.of (by decide) (Nat.le_of_ble_eq_true rfl) ?_
  intro p e s m below meth c D cs lo S Q ls B hr hlk hin
  intro h hl hw
  replace hl : lv_has ls 1 [(0, .int x0)] := hl
  refine lv_iload_n B.1.1 B.1.2.1 dX4_isRow_0 rfl (lv_at hl 0 rfl) ?_
  refine lv_if_lt (tgt := 14) B.1.1 B.1.2.1 dX4_isRow_1 (by decide) (fun hc => ?_) (fun hc => ?_)
  · replace hw := hw.1 hc
    refine lv_iconst (v := (0 : Int32)) B.1.1 B.1.2.1 dX4_isRow_14 (by decide) ?_
    exact q_zret B hr hlk h (by decide) hw dX4_isRow_15 (Nat.le_of_ble_eq_true rfl) (Nat.le_of_ble_eq_true rfl)
  · replace hw := hw.2 hc
    refine lv_iload_n B.1.1 B.1.2.1 dX4_isRow_4 rfl (lv_at hl 0 rfl) ?_
    refine lv_bipush (v := (8 : Int32)) B.1.1 B.1.2.1 dX4_isRow_5 (by decide) ?_
    refine lv_icmp_ge (tgt := 14) B.1.1 B.1.2.1 dX4_isRow_7 (by decide) (fun hc => ?_) (fun hc => ?_)
    · replace hw := hw.1 hc
      refine lv_iconst (v := (0 : Int32)) B.1.1 B.1.2.1 dX4_isRow_14 (by decide) ?_
      exact q_zret B hr hlk h (by decide) hw dX4_isRow_15 (Nat.le_of_ble_eq_true rfl) (Nat.le_of_ble_eq_true rfl)
    · replace hw := hw.2 hc
      refine lv_iconst (v := (1 : Int32)) B.1.1 B.1.2.1 dX4_isRow_10 (by decide) ?_
      refine lv_goto (tgt := 15) B.1.1 B.1.2.1 dX4_isRow_11 (by decide) ?_
      exact q_zret B hr hlk h (by decide) hw dX4_isRow_15 (Nat.le_of_ble_eq_true rfl) (Nat.le_of_ble_eq_true rfl)
set_option maxHeartbeats 4000000 in
set_option maxRecDepth 100000 in
theorem met_X4_isWithin (l : Launch) (x0 : Int32) (x1 : Int32) (x2 : Int32) : MI l yX4_isWithin cX4_isWithin 3 (some .boolean) 0 0 0 0 [.int x0, .int x1, .int x2] (wX4_isWithin x0 x1 x2) := by
  refine MI.of (by decide) (Nat.le_of_ble_eq_true rfl) ?_
  intro p e s m below meth c D cs lo S Q ls B hr hlk hin
  intro h hl hw
  replace hl : lv_has ls 3 [(0, .int x0), (1, .int x1), (2, .int x2)] := hl
  refine lv_iload_n B.1.1 B.1.2.1 dX4_isWithin_0 rfl (lv_at hl 0 rfl) ?_
  refine lv_iload_n B.1.1 B.1.2.1 dX4_isWithin_1 rfl (lv_at hl 1 rfl) ?_
  refine lv_icmp_lt (tgt := 14) B.1.1 B.1.2.1 dX4_isWithin_2 (by decide) (fun hc => ?_) (fun hc => ?_)
  · replace hw := hw.1 hc
    refine lv_iconst (v := (0 : Int32)) B.1.1 B.1.2.1 dX4_isWithin_14 (by decide) ?_
    exact q_zret B hr hlk h (by decide) hw dX4_isWithin_15 (Nat.le_of_ble_eq_true rfl) (Nat.le_of_ble_eq_true rfl)
  · replace hw := hw.2 hc
    refine lv_iload_n B.1.1 B.1.2.1 dX4_isWithin_5 rfl (lv_at hl 0 rfl) ?_
    refine lv_iload_n B.1.1 B.1.2.1 dX4_isWithin_6 rfl (lv_at hl 2 rfl) ?_
    refine lv_icmp_gt (tgt := 14) B.1.1 B.1.2.1 dX4_isWithin_7 (by decide) (fun hc => ?_) (fun hc => ?_)
    · replace hw := hw.1 hc
      refine lv_iconst (v := (0 : Int32)) B.1.1 B.1.2.1 dX4_isWithin_14 (by decide) ?_
      exact q_zret B hr hlk h (by decide) hw dX4_isWithin_15 (Nat.le_of_ble_eq_true rfl) (Nat.le_of_ble_eq_true rfl)
    · replace hw := hw.2 hc
      refine lv_iconst (v := (1 : Int32)) B.1.1 B.1.2.1 dX4_isWithin_10 (by decide) ?_
      refine lv_goto (tgt := 15) B.1.1 B.1.2.1 dX4_isWithin_11 (by decide) ?_
      exact q_zret B hr hlk h (by decide) hw dX4_isWithin_15 (Nat.le_of_ble_eq_true rfl) (Nat.le_of_ble_eq_true rfl)
set_option maxHeartbeats 4000000 in
set_option maxRecDepth 100000 in
theorem met_X4_bannerAt (l : Launch) (a0 : Nat) (x1 : Int32) : MO l yX4_bannerAt cX4_bannerAt 2 (some (.object "StitchBanner$Banner")) 0 0 0 0 [.ref a0, .int x1] (wX4_bannerAt a0 x1) := by
  refine MO.of (by decide) (Nat.le_of_ble_eq_true rfl) ?_
  intro p e s m below meth c D cs lo S Q ls B hr hlk hin
  intro h hl hw
  replace hl : lv_has ls 2 [(0, .ref a0), (1, .int x1)] := hl
  refine lv_iload_n B.1.1 B.1.2.1 dX4_bannerAt_0 rfl (lv_at hl 1 rfl) ?_
  refine lv_if_lt (tgt := 22) B.1.1 B.1.2.1 dX4_bannerAt_1 (by decide) (fun hc => ?_) (fun hc => ?_)
  · replace hw := hw.1 hc
    refine lv_null B.1.1 B.1.2.1 dX4_bannerAt_22 ?_
    exact q_aret B (v := none) hr hlk h hw dX4_bannerAt_23 (Nat.le_of_ble_eq_true rfl) (Nat.le_of_ble_eq_true rfl)
  · replace hw := hw.2 hc
    refine lv_iload_n B.1.1 B.1.2.1 dX4_bannerAt_4 rfl (lv_at hl 1 rfl) ?_
    refine lv_aload_n B.1.1 B.1.2.1 dX4_bannerAt_5 rfl (lv_at hl 0 rfl) ?_
    obtain ⟨hok, hw⟩ := hw
    refine q_getR B h (ci := 4) (j := 0) (code := 128) rfl inT_4 (by decide) kF_RX4_11 rfl rfl rfl (by decide) dX4_bannerAt_6 hok.1 hok.2 ?_
    obtain ⟨o1, hoo1⟩ : ∃ z, z = gR S 128 a0 := ⟨_, rfl⟩
    rw [← hoo1]
    replace hw := hw o1 hoo1
    obtain ⟨q1, hn, hw⟩ := hw
    subst hn
    replace hl : lv_has ls 2 [(0, .ref a0), (1, .int x1)] := hl
    obtain ⟨hok, hw⟩ := hw
    refine q_alen B h dX4_bannerAt_9 hok.1 (by rw [hok.2]; decide) (by rw [hok.2]; decide) ?_
    refine lv_icmp_ge (tgt := 22) B.1.1 B.1.2.1 dX4_bannerAt_10 (by decide) (fun hc => ?_) (fun hc => ?_)
    · replace hw := hw.1 hc
      refine lv_null B.1.1 B.1.2.1 dX4_bannerAt_22 ?_
      exact q_aret B (v := none) hr hlk h hw dX4_bannerAt_23 (Nat.le_of_ble_eq_true rfl) (Nat.le_of_ble_eq_true rfl)
    · replace hw := hw.2 hc
      refine lv_aload_n B.1.1 B.1.2.1 dX4_bannerAt_13 rfl (lv_at hl 0 rfl) ?_
      obtain ⟨hok, hw⟩ := hw
      refine q_getR B h (ci := 4) (j := 0) (code := 128) rfl inT_4 (by decide) kF_RX4_11 rfl rfl rfl (by decide) dX4_bannerAt_14 hok.1 hok.2 ?_
      obtain ⟨o2, hoo2⟩ : ∃ z, z = gR S 128 a0 := ⟨_, rfl⟩
      rw [← hoo2]
      replace hw := hw o2 hoo2
      refine lv_iload_n B.1.1 B.1.2.1 dX4_bannerAt_17 rfl (lv_at hl 1 rfl) ?_
      obtain ⟨q2, hn, hw⟩ := hw
      subst hn
      replace hl : lv_has ls 2 [(0, .ref a0), (1, .int x1)] := hl
      obtain ⟨hok, hin9, hw⟩ := hw
      refine q_aald B h (kd := 8) (by decide) (by decide) rfl dX4_bannerAt_18 hok.1 hok.2 hin9 ?_
      obtain ⟨o3, hoo3⟩ : ∃ z, z = gQ S q2 x1.toNatClampNeg := ⟨_, rfl⟩
      rw [← hoo3]
      replace hw := hw o3 hoo3
      refine lv_goto (tgt := 23) B.1.1 B.1.2.1 dX4_bannerAt_19 (by decide) ?_
      exact q_aret B (v := o3) hr hlk h hw dX4_bannerAt_23 (Nat.le_of_ble_eq_true rfl) (Nat.le_of_ble_eq_true rfl)
set_option maxHeartbeats 4000000 in
set_option maxRecDepth 100000 in
theorem met_X4_printerAt (l : Launch) (a0 : Nat) (x1 : Int32) : MO l yX4_printerAt cX4_printerAt 2 (some (.object "StitchBanner$Printer")) 0 0 0 0 [.ref a0, .int x1] (wX4_printerAt a0 x1) := by
  refine MO.of (by decide) (Nat.le_of_ble_eq_true rfl) ?_
  intro p e s m below meth c D cs lo S Q ls B hr hlk hin
  intro h hl hw
  replace hl : lv_has ls 2 [(0, .ref a0), (1, .int x1)] := hl
  refine lv_iload_n B.1.1 B.1.2.1 dX4_printerAt_0 rfl (lv_at hl 1 rfl) ?_
  refine lv_if_lt (tgt := 22) B.1.1 B.1.2.1 dX4_printerAt_1 (by decide) (fun hc => ?_) (fun hc => ?_)
  · replace hw := hw.1 hc
    refine lv_null B.1.1 B.1.2.1 dX4_printerAt_22 ?_
    exact q_aret B (v := none) hr hlk h hw dX4_printerAt_23 (Nat.le_of_ble_eq_true rfl) (Nat.le_of_ble_eq_true rfl)
  · replace hw := hw.2 hc
    refine lv_iload_n B.1.1 B.1.2.1 dX4_printerAt_4 rfl (lv_at hl 1 rfl) ?_
    refine lv_aload_n B.1.1 B.1.2.1 dX4_printerAt_5 rfl (lv_at hl 0 rfl) ?_
    obtain ⟨hok, hw⟩ := hw
    refine q_getR B h (ci := 4) (j := 1) (code := 129) rfl inT_4 (by decide) kF_RX4_17 rfl rfl rfl (by decide) dX4_printerAt_6 hok.1 hok.2 ?_
    obtain ⟨o1, hoo1⟩ : ∃ z, z = gR S 129 a0 := ⟨_, rfl⟩
    rw [← hoo1]
    replace hw := hw o1 hoo1
    obtain ⟨q1, hn, hw⟩ := hw
    subst hn
    replace hl : lv_has ls 2 [(0, .ref a0), (1, .int x1)] := hl
    obtain ⟨hok, hw⟩ := hw
    refine q_alen B h dX4_printerAt_9 hok.1 (by rw [hok.2]; decide) (by rw [hok.2]; decide) ?_
    refine lv_icmp_ge (tgt := 22) B.1.1 B.1.2.1 dX4_printerAt_10 (by decide) (fun hc => ?_) (fun hc => ?_)
    · replace hw := hw.1 hc
      refine lv_null B.1.1 B.1.2.1 dX4_printerAt_22 ?_
      exact q_aret B (v := none) hr hlk h hw dX4_printerAt_23 (Nat.le_of_ble_eq_true rfl) (Nat.le_of_ble_eq_true rfl)
    · replace hw := hw.2 hc
      refine lv_aload_n B.1.1 B.1.2.1 dX4_printerAt_13 rfl (lv_at hl 0 rfl) ?_
      obtain ⟨hok, hw⟩ := hw
      refine q_getR B h (ci := 4) (j := 1) (code := 129) rfl inT_4 (by decide) kF_RX4_17 rfl rfl rfl (by decide) dX4_printerAt_14 hok.1 hok.2 ?_
      obtain ⟨o2, hoo2⟩ : ∃ z, z = gR S 129 a0 := ⟨_, rfl⟩
      rw [← hoo2]
      replace hw := hw o2 hoo2
      refine lv_iload_n B.1.1 B.1.2.1 dX4_printerAt_17 rfl (lv_at hl 1 rfl) ?_
      obtain ⟨q2, hn, hw⟩ := hw
      subst hn
      replace hl : lv_has ls 2 [(0, .ref a0), (1, .int x1)] := hl
      obtain ⟨hok, hin9, hw⟩ := hw
      refine q_aald B h (kd := 9) (by decide) (by decide) rfl dX4_printerAt_18 hok.1 hok.2 hin9 ?_
      obtain ⟨o3, hoo3⟩ : ∃ z, z = gQ S q2 x1.toNatClampNeg := ⟨_, rfl⟩
      rw [← hoo3]
      replace hw := hw o3 hoo3
      refine lv_goto (tgt := 23) B.1.1 B.1.2.1 dX4_printerAt_19 (by decide) ?_
      exact q_aret B (v := o3) hr hlk h hw dX4_printerAt_23 (Nat.le_of_ble_eq_true rfl) (Nat.le_of_ble_eq_true rfl)
set_option maxHeartbeats 4000000 in
set_option maxRecDepth 100000 in
theorem met_X4_stripAt (l : Launch) (p0 : Option Nat) (x1 : Int32) : MO l yX4_stripAt cX4_stripAt 2 (some (.object "StitchBanner$Strip")) 1 21 0 0 [va_rf p0, .int x1] (wX4_stripAt p0 x1) := by
  refine MO.of (by decide) (by simp [lg_sl, rf_cat, cat_i, cat_r, cat_n, cat_j, cat_f, cat_d]) ?_
  intro p e s m below meth c D cs lo S Q ls B hr hlk hin
  intro h hl hw
  replace hl : lv_has ls 2 [(0, va_rf p0), (1, .int x1)] := by simpa [lv_args, rf_cat, cat_i, cat_r, cat_n, cat_j, cat_f, cat_d] using hl
  refine q_aload_n B.1.1 B.1.2.1 dX4_stripAt_0 rfl (lv_at hl 0 rfl) ?_
  refine q_ifnonnull (tgt := 8) B.1.1 B.1.2.1 dX4_stripAt_1 (by decide) (fun hn => ?_) (fun q1 hn => ?_)
  · replace hw := hw.1 hn
    subst hn
    replace hl : lv_has ls 2 [(0, .null), (1, .int x1)] := hl
    refine lv_null B.1.1 B.1.2.1 dX4_stripAt_4 ?_
    refine lv_goto (tgt := 13) B.1.1 B.1.2.1 dX4_stripAt_5 (by decide) ?_
    exact q_aret B (v := none) hr hlk h hw dX4_stripAt_13 (Nat.le_of_ble_eq_true rfl) (Nat.le_of_ble_eq_true rfl)
  · replace hw := hw.2 q1 hn
    subst hn
    replace hl : lv_has ls 2 [(0, .ref q1), (1, .int x1)] := hl
    refine lv_aload_n B.1.1 B.1.2.1 dX4_stripAt_8 rfl (lv_at hl 0 rfl) ?_
    refine lv_iload_n B.1.1 B.1.2.1 dX4_stripAt_9 rfl (lv_at hl 1 rfl) ?_
    obtain ⟨hok, hw⟩ := hw
    refine q_callOV B h (met_X0_stripOf l q1 x1) (CB B 1 kC_X0_stripOf kI_RX0 kM_RX4_221 hd_X0_stripOf ⟨Nat.le_of_ble_eq_true rfl, Nat.le_of_ble_eq_true rfl⟩) kO_X0_stripOf kV_X0_stripOf (ci := 0) rfl (by decide) hok.1 hok.2 (rest := []) rfl rfl hl.1 (Nat.le_of_ble_eq_true rfl) dX4_stripAt_10 ⟨Nat.le_of_ble_eq_true rfl, Nat.le_of_ble_eq_true rfl⟩ hw (fun o1 S1 H locs hw9 h9 => ?_)
    replace hw := hw9
    clear hw9
    replace h := h9
    clear h9
    exact q_aret B (v := o1) hr hlk h hw dX4_stripAt_13 (Nat.le_of_ble_eq_true rfl) (Nat.le_of_ble_eq_true rfl)
set_option maxHeartbeats 4000000 in
set_option maxRecDepth 100000 in
theorem met_X4_takeFirstWaiting (l : Launch) (a0 : Nat) (p1 : Option Nat) (x2 : Int32) : MV l yX4_takeFirstWaiting cX4_takeFirstWaiting 9 none 1 23 0 0 [.ref a0, va_rf p1, .int x2] (wX4_takeFirstWaiting a0 p1 x2) := by
  refine MV.of (by decide) (by simp [lg_sl, rf_cat, cat_i, cat_r, cat_n, cat_j, cat_f, cat_d]) ?_
  intro p e s m below meth c D cs lo S Q ls B hr hlk hin
  have L11 : ∀ (c0 : Nat) (c1 : Option Nat) (c2 : Int32) (K : Option Nat → Option Nat → Int32 → Int32 → HS → Prop) (n : Nat) (m3 : Option Nat) (m4 : Option Nat) (m5 : Int32) (m6 : Int32) (S : HS) (H : Heap) (locs : List Loc) (ls : Array Slot), Hx D cs lo s S H locs → lv_has ls 9 [(0, .ref c0), (1, va_rf c1), (2, .int c2), (3, va_rf m3), (4, va_rf m4), (5, .int m5), (6, .int m6)] → wX4_takeFirstWaiting_L11 c0 c1 c2 n m3 m4 m5 m6 S K → (∀ (m3 : Option Nat) (m4 : Option Nat) (m5 : Int32) (m6 : Int32) (S : HS) (H : Heap) (locs : List Loc) (ls : Array Slot), Hx D cs lo s S H locs → lv_has ls 9 [(0, .ref c0), (1, va_rf c1), (2, .int c2), (3, va_rf m3), (4, va_rf m4), (5, .int m5), (6, .int m6)] → K m3 m4 m5 m6 S → W p l e ({ frames := 1, cells := 0, slots := 0, locals := 23 } : Room) s m [.ref a0, va_rf p1, .int x2].toArray below meth c H locs 0 0 (MQ below (va_Qv Q (fun S' t => hp D cs lo S' t.heap) (fun q => lo ≤ q)) [.ref a0, va_rf p1, .int x2].toArray s 0 0 (fun q => lo ≤ q)) (F0 m 84 ls [])) → W p l e ({ frames := 1, cells := 0, slots := 0, locals := 23 } : Room) s m [.ref a0, va_rf p1, .int x2].toArray below meth c H locs 0 0 (MQ below (va_Qv Q (fun S' t => hp D cs lo S' t.heap) (fun q => lo ≤ q)) [.ref a0, va_rf p1, .int x2].toArray s 0 0 (fun q => lo ≤ q)) (F0 m 11 ls []) := by
    intro c0 c1 c2 K n
    induction n with
    | zero => intro m3 m4 m5 m6 S H locs ls h hl hw hk; exact False.elim hw
    | succ n ih =>
      intro m3 m4 m5 m6 S H locs ls h hl hw hk
      refine lv_iload B.1.1 B.1.2.1 dX4_takeFirstWaiting_11 (lv_at hl 6 rfl) ?_
      refine lv_aload_n B.1.1 B.1.2.1 dX4_takeFirstWaiting_13 rfl (lv_at hl 0 rfl) ?_
      obtain ⟨hok, hw⟩ := hw
      refine q_getR B h (ci := 4) (j := 0) (code := 128) rfl inT_4 (by decide) kF_RX4_11 rfl rfl rfl (by decide) dX4_takeFirstWaiting_14 hok.1 hok.2 ?_
      obtain ⟨o1, hoo1⟩ : ∃ z, z = gR S 128 c0 := ⟨_, rfl⟩
      rw [← hoo1]
      replace hw := hw o1 hoo1
      obtain ⟨q1, hn, hw⟩ := hw
      subst hn
      replace hl : lv_has ls 9 [(0, .ref c0), (1, va_rf c1), (2, .int c2), (3, va_rf m3), (4, va_rf m4), (5, .int m5), (6, .int m6)] := hl
      obtain ⟨hok, hw⟩ := hw
      refine q_alen B h dX4_takeFirstWaiting_17 hok.1 (by rw [hok.2]; decide) (by rw [hok.2]; decide) ?_
      refine lv_icmp_ge (tgt := 84) B.1.1 B.1.2.1 dX4_takeFirstWaiting_18 (by decide) (fun hc => ?_) (fun hc => ?_)
      · replace hw := hw.1 hc
        exact hk m3 m4 m5 m6 _ _ _ ls h (lv_sub hl [0, 1, 2, 3, 4, 5, 6] rfl) hw
      · replace hw := hw.2 hc
        refine lv_aload_n B.1.1 B.1.2.1 dX4_takeFirstWaiting_21 rfl (lv_at hl 0 rfl) ?_
        obtain ⟨hok, hw⟩ := hw
        refine q_getR B h (ci := 4) (j := 0) (code := 128) rfl inT_4 (by decide) kF_RX4_11 rfl rfl rfl (by decide) dX4_takeFirstWaiting_22 hok.1 hok.2 ?_
        obtain ⟨o2, hoo2⟩ : ∃ z, z = gR S 128 c0 := ⟨_, rfl⟩
        rw [← hoo2]
        replace hw := hw o2 hoo2
        refine lv_iload B.1.1 B.1.2.1 dX4_takeFirstWaiting_25 (lv_at hl 6 rfl) ?_
        obtain ⟨q2, hn, hw⟩ := hw
        subst hn
        replace hl : lv_has ls 9 [(0, .ref c0), (1, va_rf c1), (2, .int c2), (3, va_rf m3), (4, va_rf m4), (5, .int m5), (6, .int m6)] := hl
        obtain ⟨hok, hin9, hw⟩ := hw
        refine q_aald B h (kd := 8) (by decide) (by decide) rfl dX4_takeFirstWaiting_27 hok.1 hok.2 hin9 ?_
        obtain ⟨o3, hoo3⟩ : ∃ z, z = gQ S q2 m6.toNatClampNeg := ⟨_, rfl⟩
        rw [← hoo3]
        replace hw := hw o3 hoo3
        refine q_astore (i := 7) (lv' := [(7, va_rf o3), (0, .ref c0), (1, va_rf c1), (2, .int c2), (3, va_rf m3), (4, va_rf m4), (5, .int m5), (6, .int m6)]) B.1.1 B.1.2.1 dX4_takeFirstWaiting_28 hl (by decide) rfl (fun ls hl9 => ?_)
        replace hl := hl9
        clear hl9
        refine q_aload B.1.1 B.1.2.1 dX4_takeFirstWaiting_30 (lv_at hl 0 rfl) ?_
        refine q_ifnull (tgt := 78) B.1.1 B.1.2.1 dX4_takeFirstWaiting_32 (by decide) (fun hn => ?_) (fun q3 hn => ?_)
        · replace hw := hw.1 hn
          subst hn
          replace hl : lv_has ls 9 [(7, .null), (0, .ref c0), (1, va_rf c1), (2, .int c2), (3, va_rf m3), (4, va_rf m4), (5, .int m5), (6, .int m6)] := hl
          refine lv_iinc (i := 6) (v := (m6 + (1 : Int32))) (lv' := [(6, .int (m6 + (1 : Int32))), (7, .null), (0, .ref c0), (1, va_rf c1), (2, .int c2), (3, va_rf m3), (4, va_rf m4), (5, .int m5)]) B.1.1 B.1.2.1 dX4_takeFirstWaiting_78 hl (k := 7) rfl rfl (by decide) rfl (fun ls hl9 => ?_)
          replace hl := hl9
          clear hl9
          refine lv_goto (tgt := 11) B.1.1 B.1.2.1 dX4_takeFirstWaiting_81 (by decide) ?_
          exact ih m3 m4 m5 (m6 + (1 : Int32)) _ _ _ ls h (lv_sub hl [2, 3, 4, 5, 6, 7, 0] rfl) hw hk
        · replace hw := hw.2 q3 hn
          subst hn
          replace hl : lv_has ls 9 [(7, .ref q3), (0, .ref c0), (1, va_rf c1), (2, .int c2), (3, va_rf m3), (4, va_rf m4), (5, .int m5), (6, .int m6)] := hl
          refine q_aload_n B.1.1 B.1.2.1 dX4_takeFirstWaiting_35 rfl (lv_at hl 4 rfl) ?_
          refine q_ifnull (tgt := 54) B.1.1 B.1.2.1 dX4_takeFirstWaiting_36 (by decide) (fun hn => ?_) (fun q4 hn => ?_)
          · replace hw := hw.1 hn
            subst hn
            replace hl : lv_has ls 9 [(7, .ref q3), (0, .ref c0), (1, va_rf c1), (2, .int c2), (3, .null), (4, va_rf m4), (5, .int m5), (6, .int m6)] := hl
            refine lv_aload B.1.1 B.1.2.1 dX4_takeFirstWaiting_54 (lv_at hl 0 rfl) ?_
            refine lv_iload_n B.1.1 B.1.2.1 dX4_takeFirstWaiting_56 rfl (lv_at hl 3 rfl) ?_
            obtain ⟨hok, hw⟩ := hw
            refine q_callOV B h (met_X0_firstWaitingFor l q3 c2) (CB B 1 kC_X0_firstWaitingFor kI_RX0 kM_RX4_210 hd_X0_firstWaitingFor ⟨Nat.le_of_ble_eq_true rfl, Nat.le_of_ble_eq_true rfl⟩) kO_X0_firstWaitingFor kV_X0_firstWaitingFor (ci := 0) rfl (by decide) hok.1 hok.2 (rest := []) rfl rfl hl.1 (Nat.le_of_ble_eq_true rfl) dX4_takeFirstWaiting_57 ⟨Nat.le_of_ble_eq_true rfl, Nat.le_of_ble_eq_true rfl⟩ hw (fun o4 S1 H locs hw9 h9 => ?_)
            replace hw := hw9
            clear hw9
            replace h := h9
            clear h9
            refine q_astore (i := 8) (lv' := [(8, va_rf o4), (7, .ref q3), (0, .ref c0), (1, va_rf c1), (2, .int c2), (3, .null), (4, va_rf m4), (5, .int m5), (6, .int m6)]) B.1.1 B.1.2.1 dX4_takeFirstWaiting_60 hl (by decide) rfl (fun ls hl9 => ?_)
            replace hl := hl9
            clear hl9
            refine q_aload B.1.1 B.1.2.1 dX4_takeFirstWaiting_62 (lv_at hl 0 rfl) ?_
            refine q_ifnull (tgt := 78) B.1.1 B.1.2.1 dX4_takeFirstWaiting_64 (by decide) (fun hn => ?_) (fun q5 hn => ?_)
            · replace hw := hw.1 hn
              subst hn
              replace hl : lv_has ls 9 [(8, .null), (7, .ref q3), (0, .ref c0), (1, va_rf c1), (2, .int c2), (3, .null), (4, va_rf m4), (5, .int m5), (6, .int m6)] := hl
              refine lv_iinc (i := 6) (v := (m6 + (1 : Int32))) (lv' := [(6, .int (m6 + (1 : Int32))), (8, .null), (7, .ref q3), (0, .ref c0), (1, va_rf c1), (2, .int c2), (3, .null), (4, va_rf m4), (5, .int m5)]) B.1.1 B.1.2.1 dX4_takeFirstWaiting_78 hl (k := 8) rfl rfl (by decide) rfl (fun ls hl9 => ?_)
              replace hl := hl9
              clear hl9
              refine lv_goto (tgt := 11) B.1.1 B.1.2.1 dX4_takeFirstWaiting_81 (by decide) ?_
              exact ih none m4 m5 (m6 + (1 : Int32)) _ _ _ ls h (lv_sub hl [3, 4, 5, 6, 7, 8, 0] rfl) hw hk
            · replace hw := hw.2 q5 hn
              subst hn
              replace hl : lv_has ls 9 [(8, .ref q5), (7, .ref q3), (0, .ref c0), (1, va_rf c1), (2, .int c2), (3, .null), (4, va_rf m4), (5, .int m5), (6, .int m6)] := hl
              refine lv_aload B.1.1 B.1.2.1 dX4_takeFirstWaiting_67 (lv_at hl 1 rfl) ?_
              refine lv_astore_n (i := 3) (lv' := [(3, .ref q3), (8, .ref q5), (7, .ref q3), (0, .ref c0), (1, va_rf c1), (2, .int c2), (4, va_rf m4), (5, .int m5), (6, .int m6)]) B.1.1 B.1.2.1 dX4_takeFirstWaiting_69 rfl hl (by decide) rfl (fun ls hl9 => ?_)
              replace hl := hl9
              clear hl9
              refine lv_aload B.1.1 B.1.2.1 dX4_takeFirstWaiting_70 (lv_at hl 1 rfl) ?_
              refine lv_astore (i := 4) (lv' := [(4, .ref q5), (3, .ref q3), (8, .ref q5), (7, .ref q3), (0, .ref c0), (1, va_rf c1), (2, .int c2), (5, .int m5), (6, .int m6)]) B.1.1 B.1.2.1 dX4_takeFirstWaiting_72 hl (by decide) rfl (fun ls hl9 => ?_)
              replace hl := hl9
              clear hl9
              refine lv_iload B.1.1 B.1.2.1 dX4_takeFirstWaiting_74 (lv_at hl 8 rfl) ?_
              refine lv_istore (i := 5) (lv' := [(5, .int m6), (4, .ref q5), (3, .ref q3), (8, .ref q5), (7, .ref q3), (0, .ref c0), (1, va_rf c1), (2, .int c2), (6, .int m6)]) B.1.1 B.1.2.1 dX4_takeFirstWaiting_76 hl (by decide) rfl (fun ls hl9 => ?_)
              replace hl := hl9
              clear hl9
              refine lv_iinc (i := 6) (v := (m6 + (1 : Int32))) (lv' := [(6, .int (m6 + (1 : Int32))), (5, .int m6), (4, .ref q5), (3, .ref q3), (8, .ref q5), (7, .ref q3), (0, .ref c0), (1, va_rf c1), (2, .int c2)]) B.1.1 B.1.2.1 dX4_takeFirstWaiting_78 hl (k := 8) rfl rfl (by decide) rfl (fun ls hl9 => ?_)
              replace hl := hl9
              clear hl9
              refine lv_goto (tgt := 11) B.1.1 B.1.2.1 dX4_takeFirstWaiting_81 (by decide) ?_
              exact ih (some q3) (some q5) m6 (m6 + (1 : Int32)) _ _ _ ls h (lv_sub hl [6, 7, 8, 3, 2, 1, 0] rfl) hw hk
          · replace hw := hw.2 q4 hn
            subst hn
            replace hl : lv_has ls 9 [(7, .ref q3), (0, .ref c0), (1, va_rf c1), (2, .int c2), (3, .ref q4), (4, va_rf m4), (5, .int m5), (6, .int m6)] := hl
            refine lv_aload B.1.1 B.1.2.1 dX4_takeFirstWaiting_39 (lv_at hl 0 rfl) ?_
            obtain ⟨hok, hw⟩ := hw
            refine q_getIN B h (ci := 0) (j := 2) (code := 2) rfl inT_0 (by decide) kF_RX4_208 rfl rfl rfl (by decide) dX4_takeFirstWaiting_41 hok.1 hok.2 ?_
            refine lv_aload_n B.1.1 B.1.2.1 dX4_takeFirstWaiting_44 rfl (lv_at hl 4 rfl) ?_
            obtain ⟨hok, hw⟩ := hw
            refine q_getIN B h (ci := 0) (j := 2) (code := 2) rfl inT_0 (by decide) kF_RX4_208 rfl rfl rfl (by decide) dX4_takeFirstWaiting_45 hok.1 hok.2 ?_
            refine lv_icmp_lt (tgt := 54) B.1.1 B.1.2.1 dX4_takeFirstWaiting_48 (by decide) (fun hc => ?_) (fun hc => ?_)
            · replace hw := hw.1 hc
              refine lv_aload B.1.1 B.1.2.1 dX4_takeFirstWaiting_54 (lv_at hl 0 rfl) ?_
              refine lv_iload_n B.1.1 B.1.2.1 dX4_takeFirstWaiting_56 rfl (lv_at hl 3 rfl) ?_
              obtain ⟨hok, hw⟩ := hw
              refine q_callOV B h (met_X0_firstWaitingFor l q3 c2) (CB B 1 kC_X0_firstWaitingFor kI_RX0 kM_RX4_210 hd_X0_firstWaitingFor ⟨Nat.le_of_ble_eq_true rfl, Nat.le_of_ble_eq_true rfl⟩) kO_X0_firstWaitingFor kV_X0_firstWaitingFor (ci := 0) rfl (by decide) hok.1 hok.2 (rest := []) rfl rfl hl.1 (Nat.le_of_ble_eq_true rfl) dX4_takeFirstWaiting_57 ⟨Nat.le_of_ble_eq_true rfl, Nat.le_of_ble_eq_true rfl⟩ hw (fun o5 S2 H locs hw9 h9 => ?_)
              replace hw := hw9
              clear hw9
              replace h := h9
              clear h9
              refine q_astore (i := 8) (lv' := [(8, va_rf o5), (7, .ref q3), (0, .ref c0), (1, va_rf c1), (2, .int c2), (3, .ref q4), (4, va_rf m4), (5, .int m5), (6, .int m6)]) B.1.1 B.1.2.1 dX4_takeFirstWaiting_60 hl (by decide) rfl (fun ls hl9 => ?_)
              replace hl := hl9
              clear hl9
              refine q_aload B.1.1 B.1.2.1 dX4_takeFirstWaiting_62 (lv_at hl 0 rfl) ?_
              refine q_ifnull (tgt := 78) B.1.1 B.1.2.1 dX4_takeFirstWaiting_64 (by decide) (fun hn => ?_) (fun q6 hn => ?_)
              · replace hw := hw.1 hn
                subst hn
                replace hl : lv_has ls 9 [(8, .null), (7, .ref q3), (0, .ref c0), (1, va_rf c1), (2, .int c2), (3, .ref q4), (4, va_rf m4), (5, .int m5), (6, .int m6)] := hl
                refine lv_iinc (i := 6) (v := (m6 + (1 : Int32))) (lv' := [(6, .int (m6 + (1 : Int32))), (8, .null), (7, .ref q3), (0, .ref c0), (1, va_rf c1), (2, .int c2), (3, .ref q4), (4, va_rf m4), (5, .int m5)]) B.1.1 B.1.2.1 dX4_takeFirstWaiting_78 hl (k := 8) rfl rfl (by decide) rfl (fun ls hl9 => ?_)
                replace hl := hl9
                clear hl9
                refine lv_goto (tgt := 11) B.1.1 B.1.2.1 dX4_takeFirstWaiting_81 (by decide) ?_
                exact ih (some q4) m4 m5 (m6 + (1 : Int32)) _ _ _ ls h (lv_sub hl [3, 4, 5, 6, 7, 8, 0] rfl) hw hk
              · replace hw := hw.2 q6 hn
                subst hn
                replace hl : lv_has ls 9 [(8, .ref q6), (7, .ref q3), (0, .ref c0), (1, va_rf c1), (2, .int c2), (3, .ref q4), (4, va_rf m4), (5, .int m5), (6, .int m6)] := hl
                refine lv_aload B.1.1 B.1.2.1 dX4_takeFirstWaiting_67 (lv_at hl 1 rfl) ?_
                refine lv_astore_n (i := 3) (lv' := [(3, .ref q3), (8, .ref q6), (7, .ref q3), (0, .ref c0), (1, va_rf c1), (2, .int c2), (4, va_rf m4), (5, .int m5), (6, .int m6)]) B.1.1 B.1.2.1 dX4_takeFirstWaiting_69 rfl hl (by decide) rfl (fun ls hl9 => ?_)
                replace hl := hl9
                clear hl9
                refine lv_aload B.1.1 B.1.2.1 dX4_takeFirstWaiting_70 (lv_at hl 1 rfl) ?_
                refine lv_astore (i := 4) (lv' := [(4, .ref q6), (3, .ref q3), (8, .ref q6), (7, .ref q3), (0, .ref c0), (1, va_rf c1), (2, .int c2), (5, .int m5), (6, .int m6)]) B.1.1 B.1.2.1 dX4_takeFirstWaiting_72 hl (by decide) rfl (fun ls hl9 => ?_)
                replace hl := hl9
                clear hl9
                refine lv_iload B.1.1 B.1.2.1 dX4_takeFirstWaiting_74 (lv_at hl 8 rfl) ?_
                refine lv_istore (i := 5) (lv' := [(5, .int m6), (4, .ref q6), (3, .ref q3), (8, .ref q6), (7, .ref q3), (0, .ref c0), (1, va_rf c1), (2, .int c2), (6, .int m6)]) B.1.1 B.1.2.1 dX4_takeFirstWaiting_76 hl (by decide) rfl (fun ls hl9 => ?_)
                replace hl := hl9
                clear hl9
                refine lv_iinc (i := 6) (v := (m6 + (1 : Int32))) (lv' := [(6, .int (m6 + (1 : Int32))), (5, .int m6), (4, .ref q6), (3, .ref q3), (8, .ref q6), (7, .ref q3), (0, .ref c0), (1, va_rf c1), (2, .int c2)]) B.1.1 B.1.2.1 dX4_takeFirstWaiting_78 hl (k := 8) rfl rfl (by decide) rfl (fun ls hl9 => ?_)
                replace hl := hl9
                clear hl9
                refine lv_goto (tgt := 11) B.1.1 B.1.2.1 dX4_takeFirstWaiting_81 (by decide) ?_
                exact ih (some q3) (some q6) m6 (m6 + (1 : Int32)) _ _ _ ls h (lv_sub hl [6, 7, 8, 3, 2, 1, 0] rfl) hw hk
            · replace hw := hw.2 hc
              refine lv_goto (tgt := 78) B.1.1 B.1.2.1 dX4_takeFirstWaiting_51 (by decide) ?_
              refine lv_iinc (i := 6) (v := (m6 + (1 : Int32))) (lv' := [(6, .int (m6 + (1 : Int32))), (7, .ref q3), (0, .ref c0), (1, va_rf c1), (2, .int c2), (3, .ref q4), (4, va_rf m4), (5, .int m5)]) B.1.1 B.1.2.1 dX4_takeFirstWaiting_78 hl (k := 7) rfl rfl (by decide) rfl (fun ls hl9 => ?_)
              replace hl := hl9
              clear hl9
              refine lv_goto (tgt := 11) B.1.1 B.1.2.1 dX4_takeFirstWaiting_81 (by decide) ?_
              exact ih (some q4) m4 m5 (m6 + (1 : Int32)) _ _ _ ls h (lv_sub hl [2, 3, 4, 5, 6, 7, 0] rfl) hw hk
  intro h hl hw
  replace hl : lv_has ls 9 [(0, .ref a0), (1, va_rf p1), (2, .int x2)] := by simpa [lv_args, rf_cat, cat_i, cat_r, cat_n, cat_j, cat_f, cat_d] using hl
  refine lv_null B.1.1 B.1.2.1 dX4_takeFirstWaiting_0 ?_
  refine q_astore_n (o := none) (i := 3) (lv' := [(3, .null), (0, .ref a0), (1, va_rf p1), (2, .int x2)]) B.1.1 B.1.2.1 dX4_takeFirstWaiting_1 rfl hl (by decide) rfl (fun ls hl9 => ?_)
  replace hl := hl9
  clear hl9
  refine lv_null B.1.1 B.1.2.1 dX4_takeFirstWaiting_2 ?_
  refine q_astore (o := none) (i := 4) (lv' := [(4, .null), (3, .null), (0, .ref a0), (1, va_rf p1), (2, .int x2)]) B.1.1 B.1.2.1 dX4_takeFirstWaiting_3 hl (by decide) rfl (fun ls hl9 => ?_)
  replace hl := hl9
  clear hl9
  refine lv_iconst (v := (-1 : Int32)) B.1.1 B.1.2.1 dX4_takeFirstWaiting_5 (by decide) ?_
  refine lv_istore (i := 5) (lv' := [(5, .int (-1 : Int32)), (4, .null), (3, .null), (0, .ref a0), (1, va_rf p1), (2, .int x2)]) B.1.1 B.1.2.1 dX4_takeFirstWaiting_6 hl (by decide) rfl (fun ls hl9 => ?_)
  replace hl := hl9
  clear hl9
  refine lv_iconst (v := (0 : Int32)) B.1.1 B.1.2.1 dX4_takeFirstWaiting_8 (by decide) ?_
  refine lv_istore (i := 6) (lv' := [(6, .int (0 : Int32)), (5, .int (-1 : Int32)), (4, .null), (3, .null), (0, .ref a0), (1, va_rf p1), (2, .int x2)]) B.1.1 B.1.2.1 dX4_takeFirstWaiting_9 hl (by decide) rfl (fun ls hl9 => ?_)
  replace hl := hl9
  clear hl9
  obtain ⟨n1, hw⟩ := hw
  refine L11 a0 p1 x2 _ n1 none none (-1 : Int32) (0 : Int32) _ _ _ ls h (lv_sub hl [4, 5, 6, 3, 2, 1, 0] rfl) hw (fun u1 u2 u3 u4 S3 H locs ls h9 hl9 hw9 => ?_)
  replace hw := hw9
  clear hw9
  replace h := h9
  clear h9
  replace hl := hl9
  clear hl9
  refine q_aload_n B.1.1 B.1.2.1 dX4_takeFirstWaiting_84 rfl (lv_at hl 3 rfl) ?_
  refine q_ifnull (tgt := 102) B.1.1 B.1.2.1 dX4_takeFirstWaiting_85 (by decide) (fun hn => ?_) (fun q7 hn => ?_)
  · replace hw := hw.1 hn
    subst hn
    replace hl : lv_has ls 9 [(0, .ref a0), (1, va_rf p1), (2, .int x2), (3, .null), (4, va_rf u2), (5, .int u3), (6, .int u4)] := hl
    exact q_vret B hr hlk h hw dX4_takeFirstWaiting_102 (Nat.le_of_ble_eq_true rfl) (Nat.le_of_ble_eq_true rfl)
  · replace hw := hw.2 q7 hn
    subst hn
    replace hl : lv_has ls 9 [(0, .ref a0), (1, va_rf p1), (2, .int x2), (3, .ref q7), (4, va_rf u2), (5, .int u3), (6, .int u4)] := hl
    refine q_aload B.1.1 B.1.2.1 dX4_takeFirstWaiting_88 (lv_at hl 4 rfl) ?_
    refine q_ifnull (tgt := 102) B.1.1 B.1.2.1 dX4_takeFirstWaiting_90 (by decide) (fun hn => ?_) (fun q8 hn => ?_)
    · replace hw := hw.1 hn
      subst hn
      replace hl : lv_has ls 9 [(0, .ref a0), (1, va_rf p1), (2, .int x2), (3, .ref q7), (4, .null), (5, .int u3), (6, .int u4)] := hl
      exact q_vret B hr hlk h hw dX4_takeFirstWaiting_102 (Nat.le_of_ble_eq_true rfl) (Nat.le_of_ble_eq_true rfl)
    · replace hw := hw.2 q8 hn
      subst hn
      replace hl : lv_has ls 9 [(0, .ref a0), (1, va_rf p1), (2, .int x2), (3, .ref q7), (4, .ref q8), (5, .int u3), (6, .int u4)] := hl
      refine q_aload_n B.1.1 B.1.2.1 dX4_takeFirstWaiting_93 rfl (lv_at hl 1 rfl) ?_
      refine lv_aload_n B.1.1 B.1.2.1 dX4_takeFirstWaiting_94 rfl (lv_at hl 3 rfl) ?_
      refine lv_aload B.1.1 B.1.2.1 dX4_takeFirstWaiting_95 (lv_at hl 4 rfl) ?_
      refine lv_iload B.1.1 B.1.2.1 dX4_takeFirstWaiting_97 (lv_at hl 5 rfl) ?_
      obtain ⟨q9, hn, hw⟩ := hw
      subst hn
      replace hl : lv_has ls 9 [(0, .ref a0), (1, .ref q9), (2, .int x2), (3, .ref q7), (4, .ref q8), (5, .int u3), (6, .int u4)] := hl
      obtain ⟨hok, hw⟩ := hw
      refine q_callVV B h (met_X2_start l q9 (some q7) (some q8) u3) (CB B 3 kC_X2_start kI_RX2 kM_RX4_214 hd_X2_start ⟨Nat.le_of_ble_eq_true rfl, Nat.le_of_ble_eq_true rfl⟩) kO_X2_start kV_X2_start (ci := 2) rfl (by decide) hok.1 hok.2 (rest := []) rfl rfl hl.1 (Nat.le_of_ble_eq_true rfl) dX4_takeFirstWaiting_99 ⟨Nat.le_of_ble_eq_true rfl, Nat.le_of_ble_eq_true rfl⟩ hw (fun S4 H locs hw9 h9 => ?_)
      replace hw := hw9
      clear hw9
      replace h := h9
      clear h9
      exact q_vret B hr hlk h hw dX4_takeFirstWaiting_102 (Nat.le_of_ble_eq_true rfl) (Nat.le_of_ble_eq_true rfl)
set_option maxHeartbeats 4000000 in
set_option maxRecDepth 100000 in
theorem met_X4_startIdlePrinters (l : Launch) (a0 : Nat) : MV l yX4_startIdlePrinters cX4_startIdlePrinters 3 none 2 51 0 0 [.ref a0] (wX4_startIdlePrinters a0) := by
  refine MV.of (by decide) (Nat.le_of_ble_eq_true rfl) ?_
  intro p e s m below meth c D cs lo S Q ls B hr hlk hin
  have L2 : ∀ (c0 : Nat) (K : Int32 → HS → Prop) (n : Nat) (m1 : Int32) (S : HS) (H : Heap) (locs : List Loc) (ls : Array Slot), Hx D cs lo s S H locs → lv_has ls 3 [(0, .ref c0), (1, .int m1)] → wX4_startIdlePrinters_L2 c0 n m1 S K → (∀ (m1 : Int32) (S : HS) (H : Heap) (locs : List Loc) (ls : Array Slot), Hx D cs lo s S H locs → lv_has ls 3 [(0, .ref c0), (1, .int m1)] → K m1 S → W p l e ({ frames := 2, cells := 0, slots := 0, locals := 51 } : Room) s m [.ref a0].toArray below meth c H locs 0 0 (MQ below (va_Qv Q (fun S' t => hp D cs lo S' t.heap) (fun q => lo ≤ q)) [.ref a0].toArray s 0 0 (fun q => lo ≤ q)) (F0 m 48 ls [])) → W p l e ({ frames := 2, cells := 0, slots := 0, locals := 51 } : Room) s m [.ref a0].toArray below meth c H locs 0 0 (MQ below (va_Qv Q (fun S' t => hp D cs lo S' t.heap) (fun q => lo ≤ q)) [.ref a0].toArray s 0 0 (fun q => lo ≤ q)) (F0 m 2 ls []) := by
    intro c0 K n
    induction n with
    | zero => intro m1 S H locs ls h hl hw hk; exact False.elim hw
    | succ n ih =>
      intro m1 S H locs ls h hl hw hk
      refine lv_iload_n B.1.1 B.1.2.1 dX4_startIdlePrinters_2 rfl (lv_at hl 1 rfl) ?_
      refine lv_aload_n B.1.1 B.1.2.1 dX4_startIdlePrinters_3 rfl (lv_at hl 0 rfl) ?_
      obtain ⟨hok, hw⟩ := hw
      refine q_getR B h (ci := 4) (j := 1) (code := 129) rfl inT_4 (by decide) kF_RX4_17 rfl rfl rfl (by decide) dX4_startIdlePrinters_4 hok.1 hok.2 ?_
      obtain ⟨o1, hoo1⟩ : ∃ z, z = gR S 129 c0 := ⟨_, rfl⟩
      rw [← hoo1]
      replace hw := hw o1 hoo1
      obtain ⟨q1, hn, hw⟩ := hw
      subst hn
      replace hl : lv_has ls 3 [(0, .ref c0), (1, .int m1)] := hl
      obtain ⟨hok, hw⟩ := hw
      refine q_alen B h dX4_startIdlePrinters_7 hok.1 (by rw [hok.2]; decide) (by rw [hok.2]; decide) ?_
      refine lv_icmp_ge (tgt := 48) B.1.1 B.1.2.1 dX4_startIdlePrinters_8 (by decide) (fun hc => ?_) (fun hc => ?_)
      · replace hw := hw.1 hc
        exact hk m1 _ _ _ ls h (lv_sub hl [0, 1] rfl) hw
      · replace hw := hw.2 hc
        refine lv_aload_n B.1.1 B.1.2.1 dX4_startIdlePrinters_11 rfl (lv_at hl 0 rfl) ?_
        obtain ⟨hok, hw⟩ := hw
        refine q_getR B h (ci := 4) (j := 1) (code := 129) rfl inT_4 (by decide) kF_RX4_17 rfl rfl rfl (by decide) dX4_startIdlePrinters_12 hok.1 hok.2 ?_
        obtain ⟨o2, hoo2⟩ : ∃ z, z = gR S 129 c0 := ⟨_, rfl⟩
        rw [← hoo2]
        replace hw := hw o2 hoo2
        refine lv_iload_n B.1.1 B.1.2.1 dX4_startIdlePrinters_15 rfl (lv_at hl 1 rfl) ?_
        obtain ⟨q2, hn, hw⟩ := hw
        subst hn
        replace hl : lv_has ls 3 [(0, .ref c0), (1, .int m1)] := hl
        obtain ⟨hok, hin9, hw⟩ := hw
        refine q_aald B h (kd := 9) (by decide) (by decide) rfl dX4_startIdlePrinters_16 hok.1 hok.2 hin9 ?_
        obtain ⟨o3, hoo3⟩ : ∃ z, z = gQ S q2 m1.toNatClampNeg := ⟨_, rfl⟩
        rw [← hoo3]
        replace hw := hw o3 hoo3
        refine q_astore_n (i := 2) (lv' := [(2, va_rf o3), (0, .ref c0), (1, .int m1)]) B.1.1 B.1.2.1 dX4_startIdlePrinters_17 rfl hl (by decide) rfl (fun ls hl9 => ?_)
        replace hl := hl9
        clear hl9
        refine q_aload_n B.1.1 B.1.2.1 dX4_startIdlePrinters_18 rfl (lv_at hl 0 rfl) ?_
        refine q_ifnull (tgt := 42) B.1.1 B.1.2.1 dX4_startIdlePrinters_19 (by decide) (fun hn => ?_) (fun q3 hn => ?_)
        · replace hw := hw.1 hn
          subst hn
          replace hl : lv_has ls 3 [(2, .null), (0, .ref c0), (1, .int m1)] := hl
          refine lv_iinc (i := 1) (v := (m1 + (1 : Int32))) (lv' := [(1, .int (m1 + (1 : Int32))), (2, .null), (0, .ref c0)]) B.1.1 B.1.2.1 dX4_startIdlePrinters_42 hl (k := 2) rfl rfl (by decide) rfl (fun ls hl9 => ?_)
          replace hl := hl9
          clear hl9
          refine lv_goto (tgt := 2) B.1.1 B.1.2.1 dX4_startIdlePrinters_45 (by decide) ?_
          exact ih (m1 + (1 : Int32)) _ _ _ ls h (lv_sub hl [2, 0] rfl) hw hk
        · replace hw := hw.2 q3 hn
          subst hn
          replace hl : lv_has ls 3 [(2, .ref q3), (0, .ref c0), (1, .int m1)] := hl
          refine lv_aload_n B.1.1 B.1.2.1 dX4_startIdlePrinters_22 rfl (lv_at hl 0 rfl) ?_
          obtain ⟨hok, hw⟩ := hw
          refine q_callIV B h (met_X2_isPrinting l q3) (CB B 0 kC_X2_isPrinting kI_RX2 kM_RX4_120 hd_X2_isPrinting ⟨Nat.le_of_ble_eq_true rfl, Nat.le_of_ble_eq_true rfl⟩) kO_X2_isPrinting kV_X2_isPrinting (ci := 2) rfl (by decide) hok.1 hok.2 (rest := []) rfl rfl hl.1 (Nat.le_of_ble_eq_true rfl) dX4_startIdlePrinters_23 ⟨Nat.le_of_ble_eq_true rfl, Nat.le_of_ble_eq_true rfl⟩ hw (fun r1 S1 H locs hw9 h9 => ?_)
          replace hw := hw9
          clear hw9
          replace h := h9
          clear h9
          refine lv_if_ne (tgt := 42) B.1.1 B.1.2.1 dX4_startIdlePrinters_26 (by decide) (fun hc => ?_) (fun hc => ?_)
          · replace hw := hw.1 hc
            refine lv_iinc (i := 1) (v := (m1 + (1 : Int32))) (lv' := [(1, .int (m1 + (1 : Int32))), (2, .ref q3), (0, .ref c0)]) B.1.1 B.1.2.1 dX4_startIdlePrinters_42 hl (k := 2) rfl rfl (by decide) rfl (fun ls hl9 => ?_)
            replace hl := hl9
            clear hl9
            refine lv_goto (tgt := 2) B.1.1 B.1.2.1 dX4_startIdlePrinters_45 (by decide) ?_
            exact ih (m1 + (1 : Int32)) _ _ _ ls h (lv_sub hl [2, 0] rfl) hw hk
          · replace hw := hw.2 hc
            refine lv_aload_n B.1.1 B.1.2.1 dX4_startIdlePrinters_29 rfl (lv_at hl 0 rfl) ?_
            obtain ⟨hok, hw⟩ := hw
            refine q_getIN B h (ci := 2) (j := 5) (code := 69) rfl inT_2 (by decide) kF_RX4_157 rfl rfl rfl (by decide) dX4_startIdlePrinters_30 hok.1 hok.2 ?_
            refine lv_if_le (tgt := 42) B.1.1 B.1.2.1 dX4_startIdlePrinters_33 (by decide) (fun hc => ?_) (fun hc => ?_)
            · replace hw := hw.1 hc
              refine lv_iinc (i := 1) (v := (m1 + (1 : Int32))) (lv' := [(1, .int (m1 + (1 : Int32))), (2, .ref q3), (0, .ref c0)]) B.1.1 B.1.2.1 dX4_startIdlePrinters_42 hl (k := 2) rfl rfl (by decide) rfl (fun ls hl9 => ?_)
              replace hl := hl9
              clear hl9
              refine lv_goto (tgt := 2) B.1.1 B.1.2.1 dX4_startIdlePrinters_45 (by decide) ?_
              exact ih (m1 + (1 : Int32)) _ _ _ ls h (lv_sub hl [2, 0] rfl) hw hk
            · replace hw := hw.2 hc
              refine lv_aload_n B.1.1 B.1.2.1 dX4_startIdlePrinters_36 rfl (lv_at hl 1 rfl) ?_
              refine lv_aload_n B.1.1 B.1.2.1 dX4_startIdlePrinters_37 rfl (lv_at hl 0 rfl) ?_
              refine lv_iload_n B.1.1 B.1.2.1 dX4_startIdlePrinters_38 rfl (lv_at hl 2 rfl) ?_
              obtain ⟨hok, hw⟩ := hw
              refine q_callVV B h (met_X4_takeFirstWaiting l c0 (some q3) m1) (CB B 2 kC_X4_takeFirstWaiting kI_RX4 kM_RX4_204 hd_X4_takeFirstWaiting ⟨Nat.le_of_ble_eq_true rfl, Nat.le_of_ble_eq_true rfl⟩) kO_X4_takeFirstWaiting kV_X4_takeFirstWaiting (ci := 4) rfl (by decide) hok.1 hok.2 (rest := []) rfl rfl hl.1 (Nat.le_of_ble_eq_true rfl) dX4_startIdlePrinters_39 ⟨Nat.le_of_ble_eq_true rfl, Nat.le_of_ble_eq_true rfl⟩ hw (fun S2 H locs hw9 h9 => ?_)
              replace hw := hw9
              clear hw9
              replace h := h9
              clear h9
              refine lv_iinc (i := 1) (v := (m1 + (1 : Int32))) (lv' := [(1, .int (m1 + (1 : Int32))), (2, .ref q3), (0, .ref c0)]) B.1.1 B.1.2.1 dX4_startIdlePrinters_42 hl (k := 2) rfl rfl (by decide) rfl (fun ls hl9 => ?_)
              replace hl := hl9
              clear hl9
              refine lv_goto (tgt := 2) B.1.1 B.1.2.1 dX4_startIdlePrinters_45 (by decide) ?_
              exact ih (m1 + (1 : Int32)) _ _ _ ls h (lv_sub hl [2, 0] rfl) hw hk
  intro h hl hw
  replace hl : lv_has ls 3 [(0, .ref a0)] := hl
  refine lv_iconst (v := (0 : Int32)) B.1.1 B.1.2.1 dX4_startIdlePrinters_0 (by decide) ?_
  refine lv_istore_n (i := 1) (lv' := [(1, .int (0 : Int32)), (0, .ref a0)]) B.1.1 B.1.2.1 dX4_startIdlePrinters_1 rfl hl (by decide) rfl (fun ls hl9 => ?_)
  replace hl := hl9
  clear hl9
  obtain ⟨n1, hw⟩ := hw
  refine L2 a0 _ n1 (0 : Int32) _ _ _ ls h (lv_sub hl [1, 0] rfl) hw (fun u1 S3 H locs ls h9 hl9 hw9 => ?_)
  replace hw := hw9
  clear hw9
  replace h := h9
  clear h9
  replace hl := hl9
  clear hl9
  exact q_vret B hr hlk h hw dX4_startIdlePrinters_48 (Nat.le_of_ble_eq_true rfl) (Nat.le_of_ble_eq_true rfl)
set_option maxHeartbeats 4000000 in
set_option maxRecDepth 100000 in
theorem met_X4_endTick (l : Launch) (a0 : Nat) : MI l yX4_endTick cX4_endTick 4 (some .int) 5 121 0 0 [.ref a0] (wX4_endTick a0) := by
  refine MI.of (by decide) (Nat.le_of_ble_eq_true rfl) ?_
  intro p e s m below meth c D cs lo S Q ls B hr hlk hin
  have L4 : ∀ (c0 : Nat) (K : Int32 → Int32 → HS → Prop) (n : Nat) (m1 : Int32) (m2 : Int32) (S : HS) (H : Heap) (locs : List Loc) (ls : Array Slot), Hx D cs lo s S H locs → lv_has ls 4 [(0, .ref c0), (1, .int m1), (2, .int m2)] → wX4_endTick_L4 c0 n m1 m2 S K → (∀ (m1 : Int32) (m2 : Int32) (S : HS) (H : Heap) (locs : List Loc) (ls : Array Slot), Hx D cs lo s S H locs → lv_has ls 4 [(0, .ref c0), (1, .int m1), (2, .int m2)] → K m1 m2 S → W p l e ({ frames := 5, cells := 0, slots := 0, locals := 121 } : Room) s m [.ref a0].toArray below meth c H locs 0 0 (MQ below (va_Qi Q (fun S' t => hp D cs lo S' t.heap) (fun q => lo ≤ q)) [.ref a0].toArray s 0 0 (fun q => lo ≤ q)) (F0 m 44 ls [])) → W p l e ({ frames := 5, cells := 0, slots := 0, locals := 121 } : Room) s m [.ref a0].toArray below meth c H locs 0 0 (MQ below (va_Qi Q (fun S' t => hp D cs lo S' t.heap) (fun q => lo ≤ q)) [.ref a0].toArray s 0 0 (fun q => lo ≤ q)) (F0 m 4 ls []) := by
    intro c0 K n
    induction n with
    | zero => intro m1 m2 S H locs ls h hl hw hk; exact False.elim hw
    | succ n ih =>
      intro m1 m2 S H locs ls h hl hw hk
      refine lv_iload_n B.1.1 B.1.2.1 dX4_endTick_4 rfl (lv_at hl 2 rfl) ?_
      refine lv_aload_n B.1.1 B.1.2.1 dX4_endTick_5 rfl (lv_at hl 0 rfl) ?_
      obtain ⟨hok, hw⟩ := hw
      refine q_getR B h (ci := 4) (j := 1) (code := 129) rfl inT_4 (by decide) kF_RX4_17 rfl rfl rfl (by decide) dX4_endTick_6 hok.1 hok.2 ?_
      obtain ⟨o1, hoo1⟩ : ∃ z, z = gR S 129 c0 := ⟨_, rfl⟩
      rw [← hoo1]
      replace hw := hw o1 hoo1
      obtain ⟨q1, hn, hw⟩ := hw
      subst hn
      replace hl : lv_has ls 4 [(0, .ref c0), (1, .int m1), (2, .int m2)] := hl
      obtain ⟨hok, hw⟩ := hw
      refine q_alen B h dX4_endTick_9 hok.1 (by rw [hok.2]; decide) (by rw [hok.2]; decide) ?_
      refine lv_icmp_ge (tgt := 44) B.1.1 B.1.2.1 dX4_endTick_10 (by decide) (fun hc => ?_) (fun hc => ?_)
      · replace hw := hw.1 hc
        exact hk m1 m2 _ _ _ ls h (lv_sub hl [0, 1, 2] rfl) hw
      · replace hw := hw.2 hc
        refine lv_aload_n B.1.1 B.1.2.1 dX4_endTick_13 rfl (lv_at hl 0 rfl) ?_
        obtain ⟨hok, hw⟩ := hw
        refine q_getR B h (ci := 4) (j := 1) (code := 129) rfl inT_4 (by decide) kF_RX4_17 rfl rfl rfl (by decide) dX4_endTick_14 hok.1 hok.2 ?_
        obtain ⟨o2, hoo2⟩ : ∃ z, z = gR S 129 c0 := ⟨_, rfl⟩
        rw [← hoo2]
        replace hw := hw o2 hoo2
        refine lv_iload_n B.1.1 B.1.2.1 dX4_endTick_17 rfl (lv_at hl 2 rfl) ?_
        obtain ⟨q2, hn, hw⟩ := hw
        subst hn
        replace hl : lv_has ls 4 [(0, .ref c0), (1, .int m1), (2, .int m2)] := hl
        obtain ⟨hok, hin9, hw⟩ := hw
        refine q_aald B h (kd := 9) (by decide) (by decide) rfl dX4_endTick_18 hok.1 hok.2 hin9 ?_
        obtain ⟨o3, hoo3⟩ : ∃ z, z = gQ S q2 m2.toNatClampNeg := ⟨_, rfl⟩
        rw [← hoo3]
        replace hw := hw o3 hoo3
        refine q_astore_n (i := 3) (lv' := [(3, va_rf o3), (0, .ref c0), (1, .int m1), (2, .int m2)]) B.1.1 B.1.2.1 dX4_endTick_19 rfl hl (by decide) rfl (fun ls hl9 => ?_)
        replace hl := hl9
        clear hl9
        refine q_aload_n B.1.1 B.1.2.1 dX4_endTick_20 rfl (lv_at hl 0 rfl) ?_
        refine q_ifnull (tgt := 38) B.1.1 B.1.2.1 dX4_endTick_21 (by decide) (fun hn => ?_) (fun q3 hn => ?_)
        · replace hw := hw.1 hn
          subst hn
          replace hl : lv_has ls 4 [(3, .null), (0, .ref c0), (1, .int m1), (2, .int m2)] := hl
          refine lv_iinc (i := 2) (v := (m2 + (1 : Int32))) (lv' := [(2, .int (m2 + (1 : Int32))), (3, .null), (0, .ref c0), (1, .int m1)]) B.1.1 B.1.2.1 dX4_endTick_38 hl (k := 3) rfl rfl (by decide) rfl (fun ls hl9 => ?_)
          replace hl := hl9
          clear hl9
          refine lv_goto (tgt := 4) B.1.1 B.1.2.1 dX4_endTick_41 (by decide) ?_
          exact ih m1 (m2 + (1 : Int32)) _ _ _ ls h (lv_sub hl [2, 3, 0] rfl) hw hk
        · replace hw := hw.2 q3 hn
          subst hn
          replace hl : lv_has ls 4 [(3, .ref q3), (0, .ref c0), (1, .int m1), (2, .int m2)] := hl
          refine lv_aload_n B.1.1 B.1.2.1 dX4_endTick_24 rfl (lv_at hl 0 rfl) ?_
          refine lv_aload_n B.1.1 B.1.2.1 dX4_endTick_25 rfl (lv_at hl 1 rfl) ?_
          obtain ⟨hok, hw⟩ := hw
          refine q_getI B h (ci := 4) (j := 3) (code := 131) rfl inT_4 (by decide) kF_RX4_25 rfl rfl rfl (by decide) dX4_endTick_26 hok.1 hok.2 ?_
          obtain ⟨hok, hw⟩ := hw
          refine q_callIV B h (met_X2_endsStrip l q3 (gI S 131 c0)) (CB B 1 kC_X2_endsStrip kI_RX2 kM_RX4_218 hd_X2_endsStrip ⟨Nat.le_of_ble_eq_true rfl, Nat.le_of_ble_eq_true rfl⟩) kO_X2_endsStrip kV_X2_endsStrip (ci := 2) rfl (by decide) hok.1 hok.2 (rest := []) rfl rfl hl.1 (Nat.le_of_ble_eq_true rfl) dX4_endTick_29 ⟨Nat.le_of_ble_eq_true rfl, Nat.le_of_ble_eq_true rfl⟩ hw (fun r1 S1 H locs hw9 h9 => ?_)
          replace hw := hw9
          clear hw9
          replace h := h9
          clear h9
          refine lv_if_eq (tgt := 38) B.1.1 B.1.2.1 dX4_endTick_32 (by decide) (fun hc => ?_) (fun hc => ?_)
          · replace hw := hw.1 hc
            refine lv_iinc (i := 2) (v := (m2 + (1 : Int32))) (lv' := [(2, .int (m2 + (1 : Int32))), (3, .ref q3), (0, .ref c0), (1, .int m1)]) B.1.1 B.1.2.1 dX4_endTick_38 hl (k := 3) rfl rfl (by decide) rfl (fun ls hl9 => ?_)
            replace hl := hl9
            clear hl9
            refine lv_goto (tgt := 4) B.1.1 B.1.2.1 dX4_endTick_41 (by decide) ?_
            exact ih m1 (m2 + (1 : Int32)) _ _ _ ls h (lv_sub hl [2, 3, 0] rfl) hw hk
          · replace hw := hw.2 hc
            refine lv_iinc (i := 1) (v := (m1 + (1 : Int32))) (lv' := [(1, .int (m1 + (1 : Int32))), (3, .ref q3), (0, .ref c0), (2, .int m2)]) B.1.1 B.1.2.1 dX4_endTick_35 hl (k := 2) rfl rfl (by decide) rfl (fun ls hl9 => ?_)
            replace hl := hl9
            clear hl9
            refine lv_iinc (i := 2) (v := (m2 + (1 : Int32))) (lv' := [(2, .int (m2 + (1 : Int32))), (1, .int (m1 + (1 : Int32))), (3, .ref q3), (0, .ref c0)]) B.1.1 B.1.2.1 dX4_endTick_38 hl (k := 3) rfl rfl (by decide) rfl (fun ls hl9 => ?_)
            replace hl := hl9
            clear hl9
            refine lv_goto (tgt := 4) B.1.1 B.1.2.1 dX4_endTick_41 (by decide) ?_
            exact ih (m1 + (1 : Int32)) (m2 + (1 : Int32)) _ _ _ ls h (lv_sub hl [3, 1, 0] rfl) hw hk
  intro h hl hw
  replace hl : lv_has ls 4 [(0, .ref a0)] := hl
  refine lv_iconst (v := (0 : Int32)) B.1.1 B.1.2.1 dX4_endTick_0 (by decide) ?_
  refine lv_istore_n (i := 1) (lv' := [(1, .int (0 : Int32)), (0, .ref a0)]) B.1.1 B.1.2.1 dX4_endTick_1 rfl hl (by decide) rfl (fun ls hl9 => ?_)
  replace hl := hl9
  clear hl9
  refine lv_iconst (v := (0 : Int32)) B.1.1 B.1.2.1 dX4_endTick_2 (by decide) ?_
  refine lv_istore_n (i := 2) (lv' := [(2, .int (0 : Int32)), (1, .int (0 : Int32)), (0, .ref a0)]) B.1.1 B.1.2.1 dX4_endTick_3 rfl hl (by decide) rfl (fun ls hl9 => ?_)
  replace hl := hl9
  clear hl9
  obtain ⟨n1, hw⟩ := hw
  refine L4 a0 _ n1 (0 : Int32) (0 : Int32) _ _ _ ls h (lv_sub hl [2, 1, 0] rfl) hw (fun u1 u2 S2 H locs ls h9 hl9 hw9 => ?_)
  replace hw := hw9
  clear hw9
  replace h := h9
  clear h9
  replace hl := hl9
  clear hl9
  refine lv_iload_n B.1.1 B.1.2.1 dX4_endTick_44 rfl (lv_at hl 1 rfl) ?_
  exact q_iret B hr hlk h hw dX4_endTick_45 (Nat.le_of_ble_eq_true rfl) (Nat.le_of_ble_eq_true rfl)
