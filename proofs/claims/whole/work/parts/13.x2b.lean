theorem dX2_layStrip_0 : decode cX2_layStrip 0 = .ok (.iconst 0, 1) := by decide +kernel
theorem dX2_layStrip_1 : decode cX2_layStrip 1 = .ok (.istore_n 3, 1) := by decide +kernel
theorem dX2_layStrip_2 : decode cX2_layStrip 2 = .ok (.aload_n 2, 1) := by decide +kernel
theorem dX2_layStrip_3 : decode cX2_layStrip 3 = .ok (.getfield 75, 3) := by decide +kernel
theorem dX2_layStrip_6 : decode cX2_layStrip 6 = .ok (.istore 4, 2) := by decide +kernel
theorem dX2_layStrip_8 : decode cX2_layStrip 8 = .ok (.iload 4, 2) := by decide +kernel
theorem dX2_layStrip_10 : decode cX2_layStrip 10 = .ok (.aload_n 2, 1) := by decide +kernel
theorem dX2_layStrip_11 : decode cX2_layStrip 11 = .ok (.getfield 72, 3) := by decide +kernel
theorem dX2_layStrip_14 : decode cX2_layStrip 14 = .ok (.if_icmp .ge 93, 3) := by decide +kernel
theorem dX2_layStrip_17 : decode cX2_layStrip 17 = .ok (.iconst 0, 1) := by decide +kernel
theorem dX2_layStrip_18 : decode cX2_layStrip 18 = .ok (.istore 5, 2) := by decide +kernel
theorem dX2_layStrip_20 : decode cX2_layStrip 20 = .ok (.iload 5, 2) := by decide +kernel
theorem dX2_layStrip_22 : decode cX2_layStrip 22 = .ok (.bipush 8, 2) := by decide +kernel
theorem dX2_layStrip_24 : decode cX2_layStrip 24 = .ok (.if_icmp .ge 24, 3) := by decide +kernel
theorem dX2_layStrip_27 : decode cX2_layStrip 27 = .ok (.aload_n 0, 1) := by decide +kernel
theorem dX2_layStrip_28 : decode cX2_layStrip 28 = .ok (.iload 5, 2) := by decide +kernel
theorem dX2_layStrip_30 : decode cX2_layStrip 30 = .ok (.aload_n 1, 1) := by decide +kernel
theorem dX2_layStrip_31 : decode cX2_layStrip 31 = .ok (.aload_n 2, 1) := by decide +kernel
theorem dX2_layStrip_32 : decode cX2_layStrip 32 = .ok (.iload 5, 2) := by decide +kernel
theorem dX2_layStrip_34 : decode cX2_layStrip 34 = .ok (.iload 4, 2) := by decide +kernel
theorem dX2_layStrip_36 : decode cX2_layStrip 36 = .ok (.invokevirtual 85, 3) := by decide +kernel
theorem dX2_layStrip_39 : decode cX2_layStrip 39 = .ok (.invokevirtual 91, 3) := by decide +kernel
theorem dX2_layStrip_42 : decode cX2_layStrip 42 = .ok (.iinc 5 1, 3) := by decide +kernel
theorem dX2_layStrip_45 : decode cX2_layStrip 45 = .ok (.goto (-25), 3) := by decide +kernel
theorem dX2_layStrip_48 : decode cX2_layStrip 48 = .ok (.iconst 0, 1) := by decide +kernel
theorem dX2_layStrip_49 : decode cX2_layStrip 49 = .ok (.istore 5, 2) := by decide +kernel
theorem dX2_layStrip_51 : decode cX2_layStrip 51 = .ok (.iload 5, 2) := by decide +kernel
theorem dX2_layStrip_53 : decode cX2_layStrip 53 = .ok (.bipush 8, 2) := by decide +kernel
theorem dX2_layStrip_55 : decode cX2_layStrip 55 = .ok (.if_icmp .ge 46, 3) := by decide +kernel
theorem dX2_layStrip_58 : decode cX2_layStrip 58 = .ok (.aload_n 0, 1) := by decide +kernel
theorem dX2_layStrip_59 : decode cX2_layStrip 59 = .ok (.iload 5, 2) := by decide +kernel
theorem dX2_layStrip_61 : decode cX2_layStrip 61 = .ok (.invokevirtual 95, 3) := by decide +kernel
theorem dX2_layStrip_64 : decode cX2_layStrip 64 = .ok (.istore 6, 2) := by decide +kernel
theorem dX2_layStrip_66 : decode cX2_layStrip 66 = .ok (.aload_n 1, 1) := by decide +kernel
theorem dX2_layStrip_67 : decode cX2_layStrip 67 = .ok (.aload_n 2, 1) := by decide +kernel
theorem dX2_layStrip_68 : decode cX2_layStrip 68 = .ok (.iload 5, 2) := by decide +kernel
theorem dX2_layStrip_70 : decode cX2_layStrip 70 = .ok (.iload 4, 2) := by decide +kernel
theorem dX2_layStrip_72 : decode cX2_layStrip 72 = .ok (.iload 6, 2) := by decide +kernel
theorem dX2_layStrip_74 : decode cX2_layStrip 74 = .ok (.invokevirtual 98, 3) := by decide +kernel
theorem dX2_layStrip_77 : decode cX2_layStrip 77 = .ok (.aload_n 0, 1) := by decide +kernel
theorem dX2_layStrip_78 : decode cX2_layStrip 78 = .ok (.dup, 1) := by decide +kernel
theorem dX2_layStrip_79 : decode cX2_layStrip 79 = .ok (.getfield 26, 3) := by decide +kernel
theorem dX2_layStrip_82 : decode cX2_layStrip 82 = .ok (.iload 6, 2) := by decide +kernel
theorem dX2_layStrip_84 : decode cX2_layStrip 84 = .ok (.iadd, 1) := by decide +kernel
theorem dX2_layStrip_85 : decode cX2_layStrip 85 = .ok (.putfield 26, 3) := by decide +kernel
theorem dX2_layStrip_88 : decode cX2_layStrip 88 = .ok (.iload_n 3, 1) := by decide +kernel
theorem dX2_layStrip_89 : decode cX2_layStrip 89 = .ok (.iload 6, 2) := by decide +kernel
theorem dX2_layStrip_91 : decode cX2_layStrip 91 = .ok (.invokestatic 102, 3) := by decide +kernel
theorem dX2_layStrip_94 : decode cX2_layStrip 94 = .ok (.istore_n 3, 1) := by decide +kernel
theorem dX2_layStrip_95 : decode cX2_layStrip 95 = .ok (.iinc 5 1, 3) := by decide +kernel
theorem dX2_layStrip_98 : decode cX2_layStrip 98 = .ok (.goto (-47), 3) := by decide +kernel
theorem dX2_layStrip_101 : decode cX2_layStrip 101 = .ok (.iinc 4 1, 3) := by decide +kernel
theorem dX2_layStrip_104 : decode cX2_layStrip 104 = .ok (.goto (-96), 3) := by decide +kernel
theorem dX2_layStrip_107 : decode cX2_layStrip 107 = .ok (.iload_n 3, 1) := by decide +kernel
theorem dX2_layStrip_108 : decode cX2_layStrip 108 = .ok (.ireturn, 1) := by decide +kernel
theorem dX2_endsStrip_0 : decode cX2_endsStrip 0 = .ok (.aload_n 0, 1) := by decide +kernel
theorem dX2_endsStrip_1 : decode cX2_endsStrip 1 = .ok (.getfield 32, 3) := by decide +kernel
theorem dX2_endsStrip_4 : decode cX2_endsStrip 4 = .ok (.astore_n 2, 1) := by decide +kernel
theorem dX2_endsStrip_5 : decode cX2_endsStrip 5 = .ok (.aload_n 0, 1) := by decide +kernel
theorem dX2_endsStrip_6 : decode cX2_endsStrip 6 = .ok (.getfield 36, 3) := by decide +kernel
theorem dX2_endsStrip_9 : decode cX2_endsStrip 9 = .ok (.astore_n 3, 1) := by decide +kernel
theorem dX2_endsStrip_10 : decode cX2_endsStrip 10 = .ok (.aload_n 2, 1) := by decide +kernel
theorem dX2_endsStrip_11 : decode cX2_endsStrip 11 = .ok (.ifnull 7, 3) := by decide +kernel
theorem dX2_endsStrip_14 : decode cX2_endsStrip 14 = .ok (.aload_n 3, 1) := by decide +kernel
theorem dX2_endsStrip_15 : decode cX2_endsStrip 15 = .ok (.ifnonnull 5, 3) := by decide +kernel
theorem dX2_endsStrip_18 : decode cX2_endsStrip 18 = .ok (.iconst 0, 1) := by decide +kernel
theorem dX2_endsStrip_19 : decode cX2_endsStrip 19 = .ok (.ireturn, 1) := by decide +kernel
theorem dX2_endsStrip_20 : decode cX2_endsStrip 20 = .ok (.aload_n 0, 1) := by decide +kernel
theorem dX2_endsStrip_21 : decode cX2_endsStrip 21 = .ok (.dup, 1) := by decide +kernel
theorem dX2_endsStrip_22 : decode cX2_endsStrip 22 = .ok (.getfield 43, 3) := by decide +kernel
theorem dX2_endsStrip_25 : decode cX2_endsStrip 25 = .ok (.iconst 1, 1) := by decide +kernel
theorem dX2_endsStrip_26 : decode cX2_endsStrip 26 = .ok (.isub, 1) := by decide +kernel
theorem dX2_endsStrip_27 : decode cX2_endsStrip 27 = .ok (.putfield 43, 3) := by decide +kernel
theorem dX2_endsStrip_30 : decode cX2_endsStrip 30 = .ok (.aload_n 0, 1) := by decide +kernel
theorem dX2_endsStrip_31 : decode cX2_endsStrip 31 = .ok (.getfield 43, 3) := by decide +kernel
theorem dX2_endsStrip_34 : decode cX2_endsStrip 34 = .ok (.ifCond .le 5, 3) := by decide +kernel
theorem dX2_endsStrip_37 : decode cX2_endsStrip 37 = .ok (.iconst 0, 1) := by decide +kernel
theorem dX2_endsStrip_38 : decode cX2_endsStrip 38 = .ok (.ireturn, 1) := by decide +kernel
theorem dX2_endsStrip_39 : decode cX2_endsStrip 39 = .ok (.aload_n 3, 1) := by decide +kernel
theorem dX2_endsStrip_40 : decode cX2_endsStrip 40 = .ok (.iload_n 1, 1) := by decide +kernel
theorem dX2_endsStrip_41 : decode cX2_endsStrip 41 = .ok (.aload_n 0, 1) := by decide +kernel
theorem dX2_endsStrip_42 : decode cX2_endsStrip 42 = .ok (.aload_n 2, 1) := by decide +kernel
theorem dX2_endsStrip_43 : decode cX2_endsStrip 43 = .ok (.aload_n 3, 1) := by decide +kernel
theorem dX2_endsStrip_44 : decode cX2_endsStrip 44 = .ok (.invokevirtual 78, 3) := by decide +kernel
theorem dX2_endsStrip_47 : decode cX2_endsStrip 47 = .ok (.iadd, 1) := by decide +kernel
theorem dX2_endsStrip_48 : decode cX2_endsStrip 48 = .ok (.putfield 82, 3) := by decide +kernel
theorem dX2_endsStrip_51 : decode cX2_endsStrip 51 = .ok (.aload_n 3, 1) := by decide +kernel
theorem dX2_endsStrip_52 : decode cX2_endsStrip 52 = .ok (.iconst 0, 1) := by decide +kernel
theorem dX2_endsStrip_53 : decode cX2_endsStrip 53 = .ok (.putfield 68, 3) := by decide +kernel
theorem dX2_endsStrip_56 : decode cX2_endsStrip 56 = .ok (.aload_n 0, 1) := by decide +kernel
theorem dX2_endsStrip_57 : decode cX2_endsStrip 57 = .ok (.aconst_null, 1) := by decide +kernel
theorem dX2_endsStrip_58 : decode cX2_endsStrip 58 = .ok (.putfield 32, 3) := by decide +kernel
theorem dX2_endsStrip_61 : decode cX2_endsStrip 61 = .ok (.aload_n 0, 1) := by decide +kernel
theorem dX2_endsStrip_62 : decode cX2_endsStrip 62 = .ok (.aconst_null, 1) := by decide +kernel
theorem dX2_endsStrip_63 : decode cX2_endsStrip 63 = .ok (.putfield 36, 3) := by decide +kernel
theorem dX2_endsStrip_66 : decode cX2_endsStrip 66 = .ok (.iconst 1, 1) := by decide +kernel
theorem dX2_endsStrip_67 : decode cX2_endsStrip 67 = .ok (.ireturn, 1) := by decide +kernel
def wX2_layStrip_L20 (c0 : Nat) (c1 : Option Nat) (c2 : Nat) (c3 : Int32) (c4 : Int32) : Nat → Int32 → HS → (Int32 → HS → Prop) → Prop
  | 0, _, _, _ => False
  | n + 1, m5, S, K => (((8 : Int32) ≤ m5 → K m5 S) ∧ (¬ (8 : Int32) ≤ m5 → (∃ q2, c1 = some q2 ∧ (ok S q2 0 ∧ (wX0_share q2 (some c2) m5 c4 S (fun r1 S1 => (ok S1 c0 2 ∧ (wX2_setDose c0 m5 r1 S1 (fun S2 => wX2_layStrip_L20 c0 c1 c2 c3 c4 n (m5 + (1 : Int32)) S2 K)))))))))
def wX2_layStrip_L51 (c0 : Nat) (c1 : Option Nat) (c2 : Nat) (c4 : Int32) : Nat → Int32 → Int32 → HS → (Int32 → Int32 → HS → Prop) → Prop
  | 0, _, _, _, _ => False
  | n + 1, m3, m5, S, K => (((8 : Int32) ≤ m5 → K m3 m5 S) ∧ (¬ (8 : Int32) ≤ m5 → (ok S c0 2 ∧ (wX2_laidInRow c0 m5 S (fun r2 S4 => (∃ q3, c1 = some q3 ∧ (ok S4 q3 0 ∧ (wX0_layDot q3 (some c2) m5 c4 r2 S4 (fun S5 => (ok S5 c0 2 ∧ (ok S5 c0 2 ∧ (∀ S6, S6 = sI S5 68 c0 ((gI S5 68 c0) + r2) → wX2_layStrip_L51 c0 c1 c2 c4 n (if m3 < r2 then r2 else m3) (m5 + (1 : Int32)) S6 K))))))))))))
def wX2_layStrip_L8 (c0 : Nat) (c1 : Option Nat) (c2 : Nat) : Nat → Int32 → Int32 → HS → (Int32 → Int32 → HS → Prop) → Prop
  | 0, _, _, _, _ => False
  | n + 1, m3, m4, S, K => (ok S c2 3 ∧ (((gI S 98 c2) ≤ m4 → K m3 m4 S) ∧ (¬ (gI S 98 c2) ≤ m4 → (∃ n1 : Nat, wX2_layStrip_L20 c0 c1 c2 m3 m4 n1 (0 : Int32) S (fun u1 S3 => (∃ n2 : Nat, wX2_layStrip_L51 c0 c1 c2 m4 n2 m3 (0 : Int32) S3 (fun u2 u3 S7 => wX2_layStrip_L8 c0 c1 c2 n u2 (m4 + (1 : Int32)) S7 K)))))))
def wX2_layStrip (a0 : Nat) (p1 : Option Nat) (p2 : Option Nat) (S : HS) (Q : Int32 → HS → Prop) : Prop := (∃ q1, p2 = some q1 ∧ (ok S q1 3 ∧ (∃ n3 : Nat, wX2_layStrip_L8 a0 p1 q1 n3 (0 : Int32) (gI S 97 q1) S (fun u4 u5 S8 => Q u4 S8))))

def wX2_endsStrip (a0 : Nat) (x1 : Int32) (S : HS) (Q : Int32 → HS → Prop) : Prop := (ok S a0 2 ∧ (∀ o1, o1 = gR S 70 a0 → (ok S a0 2 ∧ (∀ o2, o2 = gR S 71 a0 → ((o1 = none → Q (0 : Int32) S) ∧ (∀ q1, o1 = some q1 → ((o2 = none → Q (0 : Int32) S) ∧ (∀ q2, o2 = some q2 → (ok S a0 2 ∧ (ok S a0 2 ∧ (∀ S1, S1 = sI S 73 a0 ((gI S 73 a0) - (1 : Int32)) → (ok S1 a0 2 ∧ (((gI S1 73 a0) ≤ 0 → (ok S1 a0 2 ∧ (wX2_layStrip a0 (some q1) (some q2) S1 (fun r1 S2 => (ok S2 q2 3 ∧ (∀ S3, S3 = sI S2 104 q2 (x1 + r1) → (ok S3 q2 3 ∧ (∀ S4, S4 = sI S3 103 q2 (0 : Int32) → (ok S4 a0 2 ∧ (∀ S5, S5 = sR S4 70 a0 none → (ok S5 a0 2 ∧ (∀ S6, S6 = sR S5 71 a0 none → Q (1 : Int32) S6)))))))))))) ∧ (¬ (gI S1 73 a0) ≤ 0 → Q (0 : Int32) S1))))))))))))))
theorem kC_X0_share : Cond.code yX0_share cX0_share 4 (some .int) ∈ T0 := T0_mem (i := 385) (by decide +kernel) (by decide +kernel)
theorem kM_RX2_85 : Cond.methodLink RX2 85 yX0_share ∈ T0 := T0_mem (i := 524) (by decide +kernel) (by decide +kernel)
theorem hd_X0_share : yX0_share.cls ≠ "java/lang/invoke/MethodHandle" ∧ yX0_share.cls ≠ "java/lang/invoke/VarHandle" ∧ (parseMethodDescriptor yX0_share.desc).map (fun d => d.parameters.length) = some 3 := by decide +kernel
theorem kO_X0_share : Cond.instanceMethod yX0_share ∈ T0 := T0_mem (i := 383) (by decide +kernel) (by decide +kernel)
theorem kV_X0_share : Cond.selects RX0 yX0_share yX0_share ∈ T0 := T0_mem (i := 384) (by decide +kernel) (by decide +kernel)
theorem kC_X2_setDose : Cond.code yX2_setDose cX2_setDose 3 none ∈ T0 := T0_mem (i := 461) (by decide +kernel) (by decide +kernel)
theorem kM_RX2_91 : Cond.methodLink RX2 91 yX2_setDose ∈ T0 := T0_mem (i := 525) (by decide +kernel) (by decide +kernel)
theorem hd_X2_setDose : yX2_setDose.cls ≠ "java/lang/invoke/MethodHandle" ∧ yX2_setDose.cls ≠ "java/lang/invoke/VarHandle" ∧ (parseMethodDescriptor yX2_setDose.desc).map (fun d => d.parameters.length) = some 2 := by decide +kernel
theorem kO_X2_setDose : Cond.instanceMethod yX2_setDose ∈ T0 := T0_mem (i := 459) (by decide +kernel) (by decide +kernel)
theorem kV_X2_setDose : Cond.selects RX2 yX2_setDose yX2_setDose ∈ T0 := T0_mem (i := 460) (by decide +kernel) (by decide +kernel)
theorem kC_X2_laidInRow : Cond.code yX2_laidInRow cX2_laidInRow 4 (some .int) ∈ T0 := T0_mem (i := 466) (by decide +kernel) (by decide +kernel)
theorem kM_RX2_95 : Cond.methodLink RX2 95 yX2_laidInRow ∈ T0 := T0_mem (i := 526) (by decide +kernel) (by decide +kernel)
theorem hd_X2_laidInRow : yX2_laidInRow.cls ≠ "java/lang/invoke/MethodHandle" ∧ yX2_laidInRow.cls ≠ "java/lang/invoke/VarHandle" ∧ (parseMethodDescriptor yX2_laidInRow.desc).map (fun d => d.parameters.length) = some 1 := by decide +kernel
theorem kO_X2_laidInRow : Cond.instanceMethod yX2_laidInRow ∈ T0 := T0_mem (i := 464) (by decide +kernel) (by decide +kernel)
theorem kV_X2_laidInRow : Cond.selects RX2 yX2_laidInRow yX2_laidInRow ∈ T0 := T0_mem (i := 465) (by decide +kernel) (by decide +kernel)
theorem kC_X0_layDot : Cond.code yX0_layDot cX0_layDot 6 none ∈ T0 := T0_mem (i := 530) (by decide +kernel) (by decide +kernel)
theorem kM_RX2_98 : Cond.methodLink RX2 98 yX0_layDot ∈ T0 := T0_mem (i := 527) (by decide +kernel) (by decide +kernel)
theorem hd_X0_layDot : yX0_layDot.cls ≠ "java/lang/invoke/MethodHandle" ∧ yX0_layDot.cls ≠ "java/lang/invoke/VarHandle" ∧ (parseMethodDescriptor yX0_layDot.desc).map (fun d => d.parameters.length) = some 4 := by decide +kernel
theorem kO_X0_layDot : Cond.instanceMethod yX0_layDot ∈ T0 := T0_mem (i := 528) (by decide +kernel) (by decide +kernel)
theorem kV_X0_layDot : Cond.selects RX0 yX0_layDot yX0_layDot ∈ T0 := T0_mem (i := 529) (by decide +kernel) (by decide +kernel)
theorem kF_RX2_26 : Cond.fieldLink RX2 26 RX2 (TX2 4).2.1 (TX2 4).2.2.1 ∈ T0 := T0_mem (i := 68) (by decide +kernel) (by decide +kernel)
theorem kM_RX2_102 : Cond.methodLink RX2 102 Lib.Math.max.name ∈ T0 := T0_mem (i := 531) (by decide +kernel) (by decide +kernel)
theorem kC_X2_layStrip : Cond.code yX2_layStrip cX2_layStrip 7 (some .int) ∈ T0 := T0_mem (i := 523) (by decide +kernel) (by decide +kernel)
theorem kM_RX2_78 : Cond.methodLink RX2 78 yX2_layStrip ∈ T0 := T0_mem (i := 520) (by decide +kernel) (by decide +kernel)
theorem hd_X2_layStrip : yX2_layStrip.cls ≠ "java/lang/invoke/MethodHandle" ∧ yX2_layStrip.cls ≠ "java/lang/invoke/VarHandle" ∧ (parseMethodDescriptor yX2_layStrip.desc).map (fun d => d.parameters.length) = some 2 := by decide +kernel
theorem kO_X2_layStrip : Cond.instanceMethod yX2_layStrip ∈ T0 := T0_mem (i := 522) (by decide +kernel) (by decide +kernel)
theorem kV_X2_layStrip : Cond.selects RX2 yX2_layStrip yX2_layStrip ∈ T0 := T0_mem (i := 9) (by decide +kernel) (by decide +kernel)
theorem kF_RX2_82 : Cond.fieldLinkNest RX2 82 RX3 (TX3 8).2.1 (TX3 8).2.2.1 "StitchBanner" ∈ T0 := T0_mem (i := 262) (by decide +kernel) (by decide +kernel)
set_option maxHeartbeats 4000000 in
set_option maxRecDepth 100000 in
theorem met_X2_layStrip (l : Launch) (a0 : Nat) (p1 : Option Nat) (p2 : Option Nat) : MI l yX2_layStrip cX2_layStrip 7 (some .int) 3 72 0 0 [.ref a0, va_rf p1, va_rf p2] (wX2_layStrip a0 p1 p2) := by
  refine MI.of (by decide) (by simp [lg_sl, rf_cat, cat_i, cat_r, cat_n, cat_j, cat_f, cat_d]) ?_
  intro p e s m below meth c D cs lo S Q ls B hr hlk hin
  have L51 : ∀ (c0 : Nat) (c1 : Option Nat) (c2 : Nat) (c4 : Int32) (K : Int32 → Int32 → HS → Prop) (n : Nat) (m3 : Int32) (m5 : Int32) (S : HS) (H : Heap) (locs : List Loc) (ls : Array Slot), Hx D cs lo s S H locs → lv_has ls 7 [(0, .ref c0), (1, va_rf c1), (2, .ref c2), (3, .int m3), (4, .int c4), (5, .int m5)] → wX2_layStrip_L51 c0 c1 c2 c4 n m3 m5 S K → (∀ (m3 : Int32) (m5 : Int32) (S : HS) (H : Heap) (locs : List Loc) (ls : Array Slot), Hx D cs lo s S H locs → lv_has ls 7 [(0, .ref c0), (1, va_rf c1), (2, .ref c2), (3, .int m3), (4, .int c4), (5, .int m5)] → K m3 m5 S → W p l e ({ frames := 3, cells := 0, slots := 0, locals := 72 } : Room) s m [.ref a0, va_rf p1, va_rf p2].toArray below meth c H locs 0 0 (MQ below (va_Qi Q (fun S' t => hp D cs lo S' t.heap) (fun q => lo ≤ q)) [.ref a0, va_rf p1, va_rf p2].toArray s 0 0 (fun q => lo ≤ q)) (F0 m 101 ls [])) → W p l e ({ frames := 3, cells := 0, slots := 0, locals := 72 } : Room) s m [.ref a0, va_rf p1, va_rf p2].toArray below meth c H locs 0 0 (MQ below (va_Qi Q (fun S' t => hp D cs lo S' t.heap) (fun q => lo ≤ q)) [.ref a0, va_rf p1, va_rf p2].toArray s 0 0 (fun q => lo ≤ q)) (F0 m 51 ls []) := by
    intro c0 c1 c2 c4 K n
    induction n with
    | zero => intro m3 m5 S H locs ls h hl hw hk; exact False.elim hw
    | succ n ih =>
      intro m3 m5 S H locs ls h hl hw hk
      refine lv_iload B.1.1 B.1.2.1 dX2_layStrip_51 (lv_at hl 5 rfl) ?_
      refine lv_bipush (v := (8 : Int32)) B.1.1 B.1.2.1 dX2_layStrip_53 (by decide) ?_
      refine lv_icmp_ge (tgt := 101) B.1.1 B.1.2.1 dX2_layStrip_55 (by decide) (fun hc => ?_) (fun hc => ?_)
      · replace hw := hw.1 hc
        exact hk m3 m5 _ _ _ ls h (lv_sub hl [0, 1, 2, 3, 4, 5] rfl) hw
      · replace hw := hw.2 hc
        refine lv_aload_n B.1.1 B.1.2.1 dX2_layStrip_58 rfl (lv_at hl 0 rfl) ?_
        refine lv_iload B.1.1 B.1.2.1 dX2_layStrip_59 (lv_at hl 5 rfl) ?_
        obtain ⟨hok, hw⟩ := hw
        refine q_callIV B h (met_X2_laidInRow l c0 m5) (CB B 1 kC_X2_laidInRow kI_RX2 kM_RX2_95 hd_X2_laidInRow ⟨Nat.le_of_ble_eq_true rfl, Nat.le_of_ble_eq_true rfl⟩) kO_X2_laidInRow kV_X2_laidInRow (ci := 2) rfl (by decide) hok.1 hok.2 (rest := []) rfl rfl hl.1 (Nat.le_of_ble_eq_true rfl) dX2_layStrip_61 ⟨Nat.le_of_ble_eq_true rfl, Nat.le_of_ble_eq_true rfl⟩ hw (fun r2 S4 H locs hw9 h9 => ?_)
        replace hw := hw9
        clear hw9
        replace h := h9
        clear h9
        refine lv_istore (i := 6) (lv' := [(6, .int r2), (0, .ref c0), (1, va_rf c1), (2, .ref c2), (3, .int m3), (4, .int c4), (5, .int m5)]) B.1.1 B.1.2.1 dX2_layStrip_64 hl (by decide) rfl (fun ls hl9 => ?_)
        replace hl := hl9
        clear hl9
        refine q_aload_n B.1.1 B.1.2.1 dX2_layStrip_66 rfl (lv_at hl 2 rfl) ?_
        refine lv_aload_n B.1.1 B.1.2.1 dX2_layStrip_67 rfl (lv_at hl 3 rfl) ?_
        refine lv_iload B.1.1 B.1.2.1 dX2_layStrip_68 (lv_at hl 6 rfl) ?_
        refine lv_iload B.1.1 B.1.2.1 dX2_layStrip_70 (lv_at hl 5 rfl) ?_
        refine lv_iload B.1.1 B.1.2.1 dX2_layStrip_72 (lv_at hl 0 rfl) ?_
        obtain ⟨q3, hn, hw⟩ := hw
        subst hn
        replace hl : lv_has ls 7 [(6, .int r2), (0, .ref c0), (1, .ref q3), (2, .ref c2), (3, .int m3), (4, .int c4), (5, .int m5)] := hl
        obtain ⟨hok, hw⟩ := hw
        refine q_callVV B h (met_X0_layDot l q3 (some c2) m5 c4 r2) (CB B 4 kC_X0_layDot kI_RX0 kM_RX2_98 hd_X0_layDot ⟨Nat.le_of_ble_eq_true rfl, Nat.le_of_ble_eq_true rfl⟩) kO_X0_layDot kV_X0_layDot (ci := 0) rfl (by decide) hok.1 hok.2 (rest := []) rfl rfl hl.1 (Nat.le_of_ble_eq_true rfl) dX2_layStrip_74 ⟨Nat.le_of_ble_eq_true rfl, Nat.le_of_ble_eq_true rfl⟩ hw (fun S5 H locs hw9 h9 => ?_)
        replace hw := hw9
        clear hw9
        replace h := h9
        clear h9
        refine lv_aload_n B.1.1 B.1.2.1 dX2_layStrip_77 rfl (lv_at hl 1 rfl) ?_
        refine lv_dup B.1.1 B.1.2.1 dX2_layStrip_78 rfl ?_
        obtain ⟨hok, hw⟩ := hw
        refine q_getI B h (ci := 2) (j := 4) (code := 68) rfl inT_2 (by decide) kF_RX2_26 rfl rfl rfl (by decide) dX2_layStrip_79 hok.1 hok.2 ?_
        refine lv_iload B.1.1 B.1.2.1 dX2_layStrip_82 (lv_at hl 0 rfl) ?_
        refine lv_iadd B.1.1 B.1.2.1 dX2_layStrip_84 ?_
        obtain ⟨hok, hw⟩ := hw
        refine q_putI B h (ci := 2) (j := 4) (code := 68) (v := ((gI S5 68 c0) + r2)) rfl inT_2 tyX2 tyX2_ok nmX2 (by decide) kF_RX2_26 rfl rfl rfl rfl (by decide) (by first | rfl | decide) (by first | rfl | decide) dX2_layStrip_85 hok.1 hok.2 (fun H locs h9 => ?_)
        obtain ⟨S6, hS6, hh⟩ : ∃ z, z = sI S5 68 c0 ((gI S5 68 c0) + r2) ∧ Hx D cs lo s z H _ := ⟨_, rfl, h9⟩
        clear h9
        replace h := hh
        clear hh
        replace hw := hw S6 hS6
        refine lv_iload_n B.1.1 B.1.2.1 dX2_layStrip_88 rfl (lv_at hl 4 rfl) ?_
        refine lv_iload B.1.1 B.1.2.1 dX2_layStrip_89 (lv_at hl 0 rfl) ?_
        refine q_max B kM_RX2_102 kS_math_max kI_java_lang_Math kC_math_max hl.1 (Nat.le_of_ble_eq_true rfl) (Nat.le_of_ble_eq_true rfl) (Nat.le_of_ble_eq_true rfl) (Nat.le_of_ble_eq_true rfl) dX2_layStrip_91 ?_
        refine lv_istore_n (i := 3) (lv' := [(3, .int (if m3 < r2 then r2 else m3)), (6, .int r2), (0, .ref c0), (1, .ref q3), (2, .ref c2), (4, .int c4), (5, .int m5)]) B.1.1 B.1.2.1 dX2_layStrip_94 rfl hl (by decide) rfl (fun ls hl9 => ?_)
        replace hl := hl9
        clear hl9
        refine lv_iinc (i := 5) (v := (m5 + (1 : Int32))) (lv' := [(5, .int (m5 + (1 : Int32))), (3, .int (if m3 < r2 then r2 else m3)), (6, .int r2), (0, .ref c0), (1, .ref q3), (2, .ref c2), (4, .int c4)]) B.1.1 B.1.2.1 dX2_layStrip_95 hl (k := 6) rfl rfl (by decide) rfl (fun ls hl9 => ?_)
        replace hl := hl9
        clear hl9
        refine lv_goto (tgt := 51) B.1.1 B.1.2.1 dX2_layStrip_98 (by decide) ?_
        exact ih (if m3 < r2 then r2 else m3) (m5 + (1 : Int32)) _ _ _ ls h (lv_sub hl [3, 4, 5, 1, 6, 0] rfl) hw hk
  have L20 : ∀ (c0 : Nat) (c1 : Option Nat) (c2 : Nat) (c3 : Int32) (c4 : Int32) (K : Int32 → HS → Prop) (n : Nat) (m5 : Int32) (S : HS) (H : Heap) (locs : List Loc) (ls : Array Slot), Hx D cs lo s S H locs → lv_has ls 7 [(0, .ref c0), (1, va_rf c1), (2, .ref c2), (3, .int c3), (4, .int c4), (5, .int m5)] → wX2_layStrip_L20 c0 c1 c2 c3 c4 n m5 S K → (∀ (m5 : Int32) (S : HS) (H : Heap) (locs : List Loc) (ls : Array Slot), Hx D cs lo s S H locs → lv_has ls 7 [(0, .ref c0), (1, va_rf c1), (2, .ref c2), (3, .int c3), (4, .int c4), (5, .int m5)] → K m5 S → W p l e ({ frames := 3, cells := 0, slots := 0, locals := 72 } : Room) s m [.ref a0, va_rf p1, va_rf p2].toArray below meth c H locs 0 0 (MQ below (va_Qi Q (fun S' t => hp D cs lo S' t.heap) (fun q => lo ≤ q)) [.ref a0, va_rf p1, va_rf p2].toArray s 0 0 (fun q => lo ≤ q)) (F0 m 48 ls [])) → W p l e ({ frames := 3, cells := 0, slots := 0, locals := 72 } : Room) s m [.ref a0, va_rf p1, va_rf p2].toArray below meth c H locs 0 0 (MQ below (va_Qi Q (fun S' t => hp D cs lo S' t.heap) (fun q => lo ≤ q)) [.ref a0, va_rf p1, va_rf p2].toArray s 0 0 (fun q => lo ≤ q)) (F0 m 20 ls []) := by
    intro c0 c1 c2 c3 c4 K n
    induction n with
    | zero => intro m5 S H locs ls h hl hw hk; exact False.elim hw
    | succ n ih =>
      intro m5 S H locs ls h hl hw hk
      refine lv_iload B.1.1 B.1.2.1 dX2_layStrip_20 (lv_at hl 5 rfl) ?_
      refine lv_bipush (v := (8 : Int32)) B.1.1 B.1.2.1 dX2_layStrip_22 (by decide) ?_
      refine lv_icmp_ge (tgt := 48) B.1.1 B.1.2.1 dX2_layStrip_24 (by decide) (fun hc => ?_) (fun hc => ?_)
      · replace hw := hw.1 hc
        exact hk m5 _ _ _ ls h (lv_sub hl [0, 1, 2, 3, 4, 5] rfl) hw
      · replace hw := hw.2 hc
        refine lv_aload_n B.1.1 B.1.2.1 dX2_layStrip_27 rfl (lv_at hl 0 rfl) ?_
        refine lv_iload B.1.1 B.1.2.1 dX2_layStrip_28 (lv_at hl 5 rfl) ?_
        refine q_aload_n B.1.1 B.1.2.1 dX2_layStrip_30 rfl (lv_at hl 1 rfl) ?_
        refine lv_aload_n B.1.1 B.1.2.1 dX2_layStrip_31 rfl (lv_at hl 2 rfl) ?_
        refine lv_iload B.1.1 B.1.2.1 dX2_layStrip_32 (lv_at hl 5 rfl) ?_
        refine lv_iload B.1.1 B.1.2.1 dX2_layStrip_34 (lv_at hl 4 rfl) ?_
        obtain ⟨q2, hn, hw⟩ := hw
        subst hn
        replace hl : lv_has ls 7 [(0, .ref c0), (1, .ref q2), (2, .ref c2), (3, .int c3), (4, .int c4), (5, .int m5)] := hl
        obtain ⟨hok, hw⟩ := hw
        refine q_callIV B h (met_X0_share l q2 (some c2) m5 c4) (CB B 3 kC_X0_share kI_RX0 kM_RX2_85 hd_X0_share ⟨Nat.le_of_ble_eq_true rfl, Nat.le_of_ble_eq_true rfl⟩) kO_X0_share kV_X0_share (ci := 0) rfl (by decide) hok.1 hok.2 (rest := [.int m5, .ref c0]) rfl rfl hl.1 (Nat.le_of_ble_eq_true rfl) dX2_layStrip_36 ⟨Nat.le_of_ble_eq_true rfl, Nat.le_of_ble_eq_true rfl⟩ hw (fun r1 S1 H locs hw9 h9 => ?_)
        replace hw := hw9
        clear hw9
        replace h := h9
        clear h9
        obtain ⟨hok, hw⟩ := hw
        refine q_callVV B h (met_X2_setDose l c0 m5 r1) (CB B 2 kC_X2_setDose kI_RX2 kM_RX2_91 hd_X2_setDose ⟨Nat.le_of_ble_eq_true rfl, Nat.le_of_ble_eq_true rfl⟩) kO_X2_setDose kV_X2_setDose (ci := 2) rfl (by decide) hok.1 hok.2 (rest := []) rfl rfl hl.1 (Nat.le_of_ble_eq_true rfl) dX2_layStrip_39 ⟨Nat.le_of_ble_eq_true rfl, Nat.le_of_ble_eq_true rfl⟩ hw (fun S2 H locs hw9 h9 => ?_)
        replace hw := hw9
        clear hw9
        replace h := h9
        clear h9
        refine lv_iinc (i := 5) (v := (m5 + (1 : Int32))) (lv' := [(5, .int (m5 + (1 : Int32))), (0, .ref c0), (1, .ref q2), (2, .ref c2), (3, .int c3), (4, .int c4)]) B.1.1 B.1.2.1 dX2_layStrip_42 hl (k := 5) rfl rfl (by decide) rfl (fun ls hl9 => ?_)
        replace hl := hl9
        clear hl9
        refine lv_goto (tgt := 20) B.1.1 B.1.2.1 dX2_layStrip_45 (by decide) ?_
        exact ih (m5 + (1 : Int32)) _ _ _ ls h (lv_sub hl [1, 2, 3, 4, 5, 0] rfl) hw hk
  have L8 : ∀ (c0 : Nat) (c1 : Option Nat) (c2 : Nat) (K : Int32 → Int32 → HS → Prop) (n : Nat) (m3 : Int32) (m4 : Int32) (S : HS) (H : Heap) (locs : List Loc) (ls : Array Slot), Hx D cs lo s S H locs → lv_has ls 7 [(0, .ref c0), (1, va_rf c1), (2, .ref c2), (3, .int m3), (4, .int m4)] → wX2_layStrip_L8 c0 c1 c2 n m3 m4 S K → (∀ (m3 : Int32) (m4 : Int32) (S : HS) (H : Heap) (locs : List Loc) (ls : Array Slot), Hx D cs lo s S H locs → lv_has ls 7 [(0, .ref c0), (1, va_rf c1), (2, .ref c2), (3, .int m3), (4, .int m4)] → K m3 m4 S → W p l e ({ frames := 3, cells := 0, slots := 0, locals := 72 } : Room) s m [.ref a0, va_rf p1, va_rf p2].toArray below meth c H locs 0 0 (MQ below (va_Qi Q (fun S' t => hp D cs lo S' t.heap) (fun q => lo ≤ q)) [.ref a0, va_rf p1, va_rf p2].toArray s 0 0 (fun q => lo ≤ q)) (F0 m 107 ls [])) → W p l e ({ frames := 3, cells := 0, slots := 0, locals := 72 } : Room) s m [.ref a0, va_rf p1, va_rf p2].toArray below meth c H locs 0 0 (MQ below (va_Qi Q (fun S' t => hp D cs lo S' t.heap) (fun q => lo ≤ q)) [.ref a0, va_rf p1, va_rf p2].toArray s 0 0 (fun q => lo ≤ q)) (F0 m 8 ls []) := by
    intro c0 c1 c2 K n
    induction n with
    | zero => intro m3 m4 S H locs ls h hl hw hk; exact False.elim hw
    | succ n ih =>
      intro m3 m4 S H locs ls h hl hw hk
      refine lv_iload B.1.1 B.1.2.1 dX2_layStrip_8 (lv_at hl 4 rfl) ?_
      refine lv_aload_n B.1.1 B.1.2.1 dX2_layStrip_10 rfl (lv_at hl 2 rfl) ?_
      obtain ⟨hok, hw⟩ := hw
      refine q_getIN B h (ci := 3) (j := 2) (code := 98) rfl inT_3 (by decide) kF_RX2_72 rfl rfl rfl (by decide) dX2_layStrip_11 hok.1 hok.2 ?_
      refine lv_icmp_ge (tgt := 107) B.1.1 B.1.2.1 dX2_layStrip_14 (by decide) (fun hc => ?_) (fun hc => ?_)
      · replace hw := hw.1 hc
        exact hk m3 m4 _ _ _ ls h (lv_sub hl [0, 1, 2, 3, 4] rfl) hw
      · replace hw := hw.2 hc
        refine lv_iconst (v := (0 : Int32)) B.1.1 B.1.2.1 dX2_layStrip_17 (by decide) ?_
        refine lv_istore (i := 5) (lv' := [(5, .int (0 : Int32)), (0, .ref c0), (1, va_rf c1), (2, .ref c2), (3, .int m3), (4, .int m4)]) B.1.1 B.1.2.1 dX2_layStrip_18 hl (by decide) rfl (fun ls hl9 => ?_)
        replace hl := hl9
        clear hl9
        obtain ⟨n1, hw⟩ := hw
        refine L20 c0 c1 c2 m3 m4 _ n1 (0 : Int32) _ _ _ ls h (lv_sub hl [1, 2, 3, 4, 5, 0] rfl) hw (fun u1 S3 H locs ls h9 hl9 hw9 => ?_)
        replace hw := hw9
        clear hw9
        replace h := h9
        clear h9
        replace hl := hl9
        clear hl9
        refine lv_iconst (v := (0 : Int32)) B.1.1 B.1.2.1 dX2_layStrip_48 (by decide) ?_
        refine lv_istore (i := 5) (lv' := [(5, .int (0 : Int32)), (0, .ref c0), (1, va_rf c1), (2, .ref c2), (3, .int m3), (4, .int m4)]) B.1.1 B.1.2.1 dX2_layStrip_49 hl (by decide) rfl (fun ls hl9 => ?_)
        replace hl := hl9
        clear hl9
        obtain ⟨n2, hw⟩ := hw
        refine L51 c0 c1 c2 m4 _ n2 m3 (0 : Int32) _ _ _ ls h (lv_sub hl [1, 2, 3, 4, 5, 0] rfl) hw (fun u2 u3 S7 H locs ls h9 hl9 hw9 => ?_)
        replace hw := hw9
        clear hw9
        replace h := h9
        clear h9
        replace hl := hl9
        clear hl9
        refine lv_iinc (i := 4) (v := (m4 + (1 : Int32))) (lv' := [(4, .int (m4 + (1 : Int32))), (0, .ref c0), (1, va_rf c1), (2, .ref c2), (3, .int u2), (5, .int u3)]) B.1.1 B.1.2.1 dX2_layStrip_101 hl (k := 4) rfl rfl (by decide) rfl (fun ls hl9 => ?_)
        replace hl := hl9
        clear hl9
        refine lv_goto (tgt := 8) B.1.1 B.1.2.1 dX2_layStrip_104 (by decide) ?_
        exact ih u2 (m4 + (1 : Int32)) _ _ _ ls h (lv_sub hl [1, 2, 3, 4, 0] rfl) hw hk
  intro h hl hw
  replace hl : lv_has ls 7 [(0, .ref a0), (1, va_rf p1), (2, va_rf p2)] := by simpa [lv_args, rf_cat, cat_i, cat_r, cat_n, cat_j, cat_f, cat_d] using hl
  refine lv_iconst (v := (0 : Int32)) B.1.1 B.1.2.1 dX2_layStrip_0 (by decide) ?_
  refine lv_istore_n (i := 3) (lv' := [(3, .int (0 : Int32)), (0, .ref a0), (1, va_rf p1), (2, va_rf p2)]) B.1.1 B.1.2.1 dX2_layStrip_1 rfl hl (by decide) (by simp [List.filter, rf_cat, cat_i, cat_r, cat_n]) (fun ls hl9 => ?_)
  replace hl := hl9
  clear hl9
  refine q_aload_n B.1.1 B.1.2.1 dX2_layStrip_2 rfl (lv_at hl 3 rfl) ?_
  obtain ⟨q1, hn, hw⟩ := hw
  subst hn
  replace hl : lv_has ls 7 [(3, .int (0 : Int32)), (0, .ref a0), (1, va_rf p1), (2, .ref q1)] := hl
  obtain ⟨hok, hw⟩ := hw
  refine q_getIN B h (ci := 3) (j := 1) (code := 97) rfl inT_3 (by decide) kF_RX2_75 rfl rfl rfl (by decide) dX2_layStrip_3 hok.1 hok.2 ?_
  refine lv_istore (i := 4) (lv' := [(4, .int (gI S 97 q1)), (3, .int (0 : Int32)), (0, .ref a0), (1, va_rf p1), (2, .ref q1)]) B.1.1 B.1.2.1 dX2_layStrip_6 hl (by decide) rfl (fun ls hl9 => ?_)
  replace hl := hl9
  clear hl9
  obtain ⟨n3, hw⟩ := hw
  refine L8 a0 p1 q1 _ n3 (0 : Int32) (gI S 97 q1) _ _ _ ls h (lv_sub hl [2, 3, 4, 1, 0] rfl) hw (fun u4 u5 S8 H locs ls h9 hl9 hw9 => ?_)
  replace hw := hw9
  clear hw9
  replace h := h9
  clear h9
  replace hl := hl9
  clear hl9
  refine lv_iload_n B.1.1 B.1.2.1 dX2_layStrip_107 rfl (lv_at hl 3 rfl) ?_
  exact q_iret B hr hlk h hw dX2_layStrip_108 (Nat.le_of_ble_eq_true rfl) (Nat.le_of_ble_eq_true rfl)
set_option maxHeartbeats 4000000 in
set_option maxRecDepth 100000 in
theorem met_X2_endsStrip (l : Launch) (a0 : Nat) (x1 : Int32) : MI l yX2_endsStrip cX2_endsStrip 4 (some .boolean) 4 98 0 0 [.ref a0, .int x1] (wX2_endsStrip a0 x1) := by
  refine MI.of (by decide) (Nat.le_of_ble_eq_true rfl) ?_
  intro p e s m below meth c D cs lo S Q ls B hr hlk hin
  intro h hl hw
  replace hl : lv_has ls 4 [(0, .ref a0), (1, .int x1)] := hl
  refine lv_aload_n B.1.1 B.1.2.1 dX2_endsStrip_0 rfl (lv_at hl 0 rfl) ?_
  obtain ⟨hok, hw⟩ := hw
  refine q_getR B h (ci := 2) (j := 6) (code := 70) rfl inT_2 (by decide) kF_RX2_32 rfl rfl rfl (by decide) dX2_endsStrip_1 hok.1 hok.2 ?_
  obtain ⟨o1, hoo1⟩ : ∃ z, z = gR S 70 a0 := ⟨_, rfl⟩
  rw [← hoo1]
  replace hw := hw o1 hoo1
  refine q_astore_n (i := 2) (lv' := [(2, va_rf o1), (0, .ref a0), (1, .int x1)]) B.1.1 B.1.2.1 dX2_endsStrip_4 rfl hl (by decide) rfl (fun ls hl9 => ?_)
  replace hl := hl9
  clear hl9
  refine lv_aload_n B.1.1 B.1.2.1 dX2_endsStrip_5 rfl (lv_at hl 1 rfl) ?_
  obtain ⟨hok, hw⟩ := hw
  refine q_getR B h (ci := 2) (j := 7) (code := 71) rfl inT_2 (by decide) kF_RX2_36 rfl rfl rfl (by decide) dX2_endsStrip_6 hok.1 hok.2 ?_
  obtain ⟨o2, hoo2⟩ : ∃ z, z = gR S 71 a0 := ⟨_, rfl⟩
  rw [← hoo2]
  replace hw := hw o2 hoo2
  refine q_astore_n (i := 3) (lv' := [(3, va_rf o2), (2, va_rf o1), (0, .ref a0), (1, .int x1)]) B.1.1 B.1.2.1 dX2_endsStrip_9 rfl hl (by decide) (by simp [List.filter, rf_cat, cat_i, cat_r, cat_n]) (fun ls hl9 => ?_)
  replace hl := hl9
  clear hl9
  refine q_aload_n B.1.1 B.1.2.1 dX2_endsStrip_10 rfl (lv_at hl 1 rfl) ?_
  refine q_ifnull (tgt := 18) B.1.1 B.1.2.1 dX2_endsStrip_11 (by decide) (fun hn => ?_) (fun q1 hn => ?_)
  · replace hw := hw.1 hn
    subst hn
    replace hl : lv_has ls 4 [(3, va_rf o2), (2, .null), (0, .ref a0), (1, .int x1)] := hl
    refine lv_iconst (v := (0 : Int32)) B.1.1 B.1.2.1 dX2_endsStrip_18 (by decide) ?_
    exact q_zret B hr hlk h (by decide) hw dX2_endsStrip_19 (Nat.le_of_ble_eq_true rfl) (Nat.le_of_ble_eq_true rfl)
  · replace hw := hw.2 q1 hn
    subst hn
    replace hl : lv_has ls 4 [(3, va_rf o2), (2, .ref q1), (0, .ref a0), (1, .int x1)] := hl
    refine q_aload_n B.1.1 B.1.2.1 dX2_endsStrip_14 rfl (lv_at hl 0 rfl) ?_
    refine q_ifnonnull (tgt := 20) B.1.1 B.1.2.1 dX2_endsStrip_15 (by decide) (fun hn => ?_) (fun q2 hn => ?_)
    · replace hw := hw.1 hn
      subst hn
      replace hl : lv_has ls 4 [(3, .null), (2, .ref q1), (0, .ref a0), (1, .int x1)] := hl
      refine lv_iconst (v := (0 : Int32)) B.1.1 B.1.2.1 dX2_endsStrip_18 (by decide) ?_
      exact q_zret B hr hlk h (by decide) hw dX2_endsStrip_19 (Nat.le_of_ble_eq_true rfl) (Nat.le_of_ble_eq_true rfl)
    · replace hw := hw.2 q2 hn
      subst hn
      replace hl : lv_has ls 4 [(3, .ref q2), (2, .ref q1), (0, .ref a0), (1, .int x1)] := hl
      refine lv_aload_n B.1.1 B.1.2.1 dX2_endsStrip_20 rfl (lv_at hl 2 rfl) ?_
      refine lv_dup B.1.1 B.1.2.1 dX2_endsStrip_21 rfl ?_
      obtain ⟨hok, hw⟩ := hw
      refine q_getI B h (ci := 2) (j := 9) (code := 73) rfl inT_2 (by decide) kF_RX2_43 rfl rfl rfl (by decide) dX2_endsStrip_22 hok.1 hok.2 ?_
      refine lv_iconst (v := (1 : Int32)) B.1.1 B.1.2.1 dX2_endsStrip_25 (by decide) ?_
      refine lv_isub B.1.1 B.1.2.1 dX2_endsStrip_26 ?_
      obtain ⟨hok, hw⟩ := hw
      refine q_putI B h (ci := 2) (j := 9) (code := 73) (v := ((gI S 73 a0) - (1 : Int32))) rfl inT_2 tyX2 tyX2_ok nmX2 (by decide) kF_RX2_43 rfl rfl rfl rfl (by decide) (by first | rfl | decide) (by first | rfl | decide) dX2_endsStrip_27 hok.1 hok.2 (fun H locs h9 => ?_)
      obtain ⟨S1, hS1, hh⟩ : ∃ z, z = sI S 73 a0 ((gI S 73 a0) - (1 : Int32)) ∧ Hx D cs lo s z H _ := ⟨_, rfl, h9⟩
      clear h9
      replace h := hh
      clear hh
      replace hw := hw S1 hS1
      refine lv_aload_n B.1.1 B.1.2.1 dX2_endsStrip_30 rfl (lv_at hl 2 rfl) ?_
      obtain ⟨hok, hw⟩ := hw
      refine q_getI B h (ci := 2) (j := 9) (code := 73) rfl inT_2 (by decide) kF_RX2_43 rfl rfl rfl (by decide) dX2_endsStrip_31 hok.1 hok.2 ?_
      refine lv_if_le (tgt := 39) B.1.1 B.1.2.1 dX2_endsStrip_34 (by decide) (fun hc => ?_) (fun hc => ?_)
      · replace hw := hw.1 hc
        refine lv_aload_n B.1.1 B.1.2.1 dX2_endsStrip_39 rfl (lv_at hl 0 rfl) ?_
        refine lv_iload_n B.1.1 B.1.2.1 dX2_endsStrip_40 rfl (lv_at hl 3 rfl) ?_
        refine lv_aload_n B.1.1 B.1.2.1 dX2_endsStrip_41 rfl (lv_at hl 2 rfl) ?_
        refine lv_aload_n B.1.1 B.1.2.1 dX2_endsStrip_42 rfl (lv_at hl 1 rfl) ?_
        refine lv_aload_n B.1.1 B.1.2.1 dX2_endsStrip_43 rfl (lv_at hl 0 rfl) ?_
        obtain ⟨hok, hw⟩ := hw
        refine q_callIV B h (met_X2_layStrip l a0 (some q1) (some q2)) (CB B 2 kC_X2_layStrip kI_RX2 kM_RX2_78 hd_X2_layStrip ⟨Nat.le_of_ble_eq_true rfl, Nat.le_of_ble_eq_true rfl⟩) kO_X2_layStrip kV_X2_layStrip (ci := 2) rfl (by decide) hok.1 hok.2 (rest := [.int x1, .ref q2]) rfl rfl hl.1 (Nat.le_of_ble_eq_true rfl) dX2_endsStrip_44 ⟨Nat.le_of_ble_eq_true rfl, Nat.le_of_ble_eq_true rfl⟩ hw (fun r1 S2 H locs hw9 h9 => ?_)
        replace hw := hw9
        clear hw9
        replace h := h9
        clear h9
        refine lv_iadd B.1.1 B.1.2.1 dX2_endsStrip_47 ?_
        obtain ⟨hok, hw⟩ := hw
        refine q_putIN B h (ci := 3) (j := 8) (code := 104) (v := (x1 + r1)) rfl inT_3 tyX3 tyX3_ok nmX3 (by decide) kF_RX2_82 rfl rfl rfl rfl (by decide) (by first | rfl | decide) (by first | rfl | decide) dX2_endsStrip_48 hok.1 hok.2 (fun H locs h9 => ?_)
        obtain ⟨S3, hS3, hh⟩ : ∃ z, z = sI S2 104 q2 (x1 + r1) ∧ Hx D cs lo s z H _ := ⟨_, rfl, h9⟩
        clear h9
        replace h := hh
        clear hh
        replace hw := hw S3 hS3
        refine lv_aload_n B.1.1 B.1.2.1 dX2_endsStrip_51 rfl (lv_at hl 0 rfl) ?_
        refine lv_iconst (v := (0 : Int32)) B.1.1 B.1.2.1 dX2_endsStrip_52 (by decide) ?_
        obtain ⟨hok, hw⟩ := hw
        refine q_putIN B h (ci := 3) (j := 7) (code := 103) (v := (0 : Int32)) rfl inT_3 tyX3 tyX3_ok nmX3 (by decide) kF_RX2_68 rfl rfl rfl rfl (by decide) (by first | rfl | decide) (by first | rfl | decide) dX2_endsStrip_53 hok.1 hok.2 (fun H locs h9 => ?_)
        obtain ⟨S4, hS4, hh⟩ : ∃ z, z = sI S3 103 q2 (0 : Int32) ∧ Hx D cs lo s z H _ := ⟨_, rfl, h9⟩
        clear h9
        replace h := hh
        clear hh
        replace hw := hw S4 hS4
        refine lv_aload_n B.1.1 B.1.2.1 dX2_endsStrip_56 rfl (lv_at hl 2 rfl) ?_
        refine lv_null B.1.1 B.1.2.1 dX2_endsStrip_57 ?_
        obtain ⟨hok, hw⟩ := hw
        refine q_putR B h (ci := 2) (j := 6) (code := 70) (v := none) rfl inT_2 tyX2 tyX2_ok nmX2 (by decide) kF_RX2_32 rfl rfl rfl rfl (by decide) rfl rfl dX2_endsStrip_58 hok.1 hok.2 (fun H locs h9 => ?_)
        obtain ⟨S5, hS5, hh⟩ : ∃ z, z = sR S4 70 a0 none ∧ Hx D cs lo s z H _ := ⟨_, rfl, h9⟩
        clear h9
        replace h := hh
        clear hh
        replace hw := hw S5 hS5
        refine lv_aload_n B.1.1 B.1.2.1 dX2_endsStrip_61 rfl (lv_at hl 2 rfl) ?_
        refine lv_null B.1.1 B.1.2.1 dX2_endsStrip_62 ?_
        obtain ⟨hok, hw⟩ := hw
        refine q_putR B h (ci := 2) (j := 7) (code := 71) (v := none) rfl inT_2 tyX2 tyX2_ok nmX2 (by decide) kF_RX2_36 rfl rfl rfl rfl (by decide) rfl rfl dX2_endsStrip_63 hok.1 hok.2 (fun H locs h9 => ?_)
        obtain ⟨S6, hS6, hh⟩ : ∃ z, z = sR S5 71 a0 none ∧ Hx D cs lo s z H _ := ⟨_, rfl, h9⟩
        clear h9
        replace h := hh
        clear hh
        replace hw := hw S6 hS6
        refine lv_iconst (v := (1 : Int32)) B.1.1 B.1.2.1 dX2_endsStrip_66 (by decide) ?_
        exact q_zret B hr hlk h (by decide) hw dX2_endsStrip_67 (Nat.le_of_ble_eq_true rfl) (Nat.le_of_ble_eq_true rfl)
      · replace hw := hw.2 hc
        refine lv_iconst (v := (0 : Int32)) B.1.1 B.1.2.1 dX2_endsStrip_37 (by decide) ?_
        exact q_zret B hr hlk h (by decide) hw dX2_endsStrip_38 (Nat.le_of_ble_eq_true rfl) (Nat.le_of_ble_eq_true rfl)
